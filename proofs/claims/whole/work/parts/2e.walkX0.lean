set_option maxHeartbeats 4000000 in
set_option maxRecDepth 100000 in
theorem mX0_addThing (l : Launch) (G : Gt) (b0 : Nat) (S : St) (o : Nat) (x1 : Int32) (x2 : Int32) (K : St → Prop) : CV l G b0 S yX0_addThing cX0_addThing 3 none rmX0_addThing [.ref (b0 + o), .int x1, .int x2] (wX0_addThing S o x1 x2 K) K := by
  refine met_of (by decide) (Nat.le_of_ble_eq_true rfl) rfl ?_
  intro p e s m below meth c hC hr hlk hin h H locs ls hM hl
  unfold wX0_addThing at h
  refine lv_aload_n hC.1 hC.2.1 dX0_addThing_0 rfl (lv_at hl 0 rfl) ?_
  obtain ⟨ok_1, h⟩ := h
  refine mm_gi hC hM (ci := 0) (j := 0) ok_1 rfl (by decide) (by decide) tw_31 rfl dX0_addThing_1 ?_
  refine lv_bipush (v := 12) hC.1 hC.2.1 dX0_addThing_4 (by decide) ?_
  refine lv_icmp_ge (tgt := 39) hC.1 hC.2.1 dX0_addThing_6 (by decide) (fun c_2 => ?_) (fun c_2 => ?_)
  · have h := h.1 c_2
    exact mm_vret hC hr hlk hM h dX0_addThing_39
  · have h := h.2 c_2
    refine lv_aload_n hC.1 hC.2.1 dX0_addThing_9 rfl (lv_at hl 0 rfl) ?_
    obtain ⟨ok_3, h⟩ := h
    refine mm_gr hC hM (ci := 0) (j := 4) ⟨ok_1, ok_3⟩ rfl (by decide) (by decide) tw_42 rfl dX0_addThing_10 ?_
    refine lv_aload_n hC.1 hC.2.1 dX0_addThing_13 rfl (lv_at hl 0 rfl) ?_
    refine mm_gi hC hM (ci := 0) (j := 0) ok_1 rfl (by decide) (by decide) tw_31 rfl dX0_addThing_14 ?_
    refine lv_iload_n hC.1 hC.2.1 dX0_addThing_17 rfl (lv_at hl 1 rfl) ?_
    obtain ⟨ok_4, h⟩ := h
    refine mm_is hC hM ok_4 dX0_addThing_18 (fun S_5 H locs eS_5 hM => ?_)
    have h := h S_5 eS_5
    refine lv_aload_n hC.1 hC.2.1 dX0_addThing_19 rfl (lv_at hl 0 rfl) ?_
    obtain ⟨ok_6, h⟩ := h
    refine mm_gr hC hM (ci := 0) (j := 5) ok_6 rfl (by decide) (by decide) tw_45 rfl dX0_addThing_20 ?_
    refine lv_aload_n hC.1 hC.2.1 dX0_addThing_23 rfl (lv_at hl 0 rfl) ?_
    refine mm_gi hC hM (ci := 0) (j := 0) ok_6.1 rfl (by decide) (by decide) tw_31 rfl dX0_addThing_24 ?_
    refine lv_iload_n hC.1 hC.2.1 dX0_addThing_27 rfl (lv_at hl 2 rfl) ?_
    obtain ⟨ok_7, h⟩ := h
    refine mm_is hC hM ok_7 dX0_addThing_28 (fun S_8 H locs eS_8 hM => ?_)
    have h := h S_8 eS_8
    refine lv_aload_n hC.1 hC.2.1 dX0_addThing_29 rfl (lv_at hl 0 rfl) ?_
    refine lv_dup hC.1 hC.2.1 dX0_addThing_30 rfl ?_
    obtain ⟨ok_9, h⟩ := h
    refine mm_gi hC hM (ci := 0) (j := 0) ok_9 rfl (by decide) (by decide) tw_31 rfl dX0_addThing_31 ?_
    refine lv_iconst (v := 1) hC.1 hC.2.1 dX0_addThing_34 (by decide) ?_
    refine lv_iadd hC.1 hC.2.1 dX0_addThing_35 ?_
    refine mm_pi hC hM (ci := 0) (j := 0) (ty := .int) ok_9 rfl (by decide) (by decide) tw_31 rfl rfl (by decide +kernel) rfl rfl dX0_addThing_36 (fun S_10 H locs eS_10 hM => ?_)
    have h := h S_10 eS_10
    exact mm_vret hC hr hlk hM h dX0_addThing_39
set_option maxHeartbeats 4000000 in
set_option maxRecDepth 100000 in
theorem qX0_holdsTogether_66 {p : Program} {l : Launch} {e : Env} {s : State} {m : MethodId} {args : Array Value} {below : List Frame} {meth : Method} {c : Code} {G : Gt} {b0 : Nat} (hC : CallFix p m c cX0_holdsTogether 6 s args lw_g RX0) (hr : meth.sig.returnType = (some .boolean)) (hlk : meth.locks = false) {K : Int32 → St → Prop} {B15 : Nat → Int32 → Int32 → Int32 → Int32 → St → Prop} (hB15 : ∀ (x0 : Nat) (x1 : Int32) (x2 : Int32) (x3 : Int32) (x4 : Int32) (S : St) (H : Heap) (locs : List Loc) (ls : Array Slot), B15 x0 x1 x2 x3 x4 S → MM G b0 s S H locs → lv_has ls 6 [(0, .ref (b0 + x0)), (1, .int x1), (2, .int x2), (3, .int x3), (4, .int x4)] → W p l e rmX0_holdsTogether s m args below meth c H locs 0 0 (MQ below (va_Qi K (ME G b0) (AB b0)) args s 0 0 (AB b0)) (F0 m 15 ls [])) : ∀ (x0 : Nat) (x1 : Int32) (x2 : Int32) (x3 : Int32) (x4 : Int32) (S : St) (H : Heap) (locs : List Loc) (ls : Array Slot), wX0_holdsTogether_66 K B15 x0 x1 x2 x3 x4 S → MM G b0 s S H locs → lv_has ls 6 [(0, .ref (b0 + x0)), (1, .int x1), (2, .int x2), (3, .int x3), (4, .int x4)] → W p l e rmX0_holdsTogether s m args below meth c H locs 0 0 (MQ below (va_Qi K (ME G b0) (AB b0)) args s 0 0 (AB b0)) (F0 m 66 ls []) := by
  intro x0 x1 x2 x3 x4 S H locs ls h hM hl
  unfold wX0_holdsTogether_66 at h
  obtain ⟨x4_1, ex4_1⟩ : ∃ y : Int32, y = x4 + 1 := ⟨_, rfl⟩
  have h := h x4_1 ex4_1
  refine lv_iinc (v := x4_1) (lv' := [(4, .int x4_1), (0, .ref (b0 + x0)), (1, .int x1), (2, .int x2), (3, .int x3)]) hC.1 hC.2.1 dX0_holdsTogether_66 hl (k := 4) rfl (by rw [ex4_1]; rfl) (by decide) rfl (fun ls hl => ?_)
  refine lv_goto (tgt := 15) hC.1 hC.2.1 dX0_holdsTogether_69 (by decide) ?_
  exact hB15 _ _ _ _ _ _ H locs ls h hM (lv_sub hl [1, 2, 3, 4, 0] rfl)
set_option maxHeartbeats 4000000 in
set_option maxRecDepth 100000 in
theorem qX0_holdsTogether_72 {p : Program} {l : Launch} {e : Env} {s : State} {m : MethodId} {args : Array Value} {below : List Frame} {meth : Method} {c : Code} {G : Gt} {b0 : Nat} (hC : CallFix p m c cX0_holdsTogether 6 s args lw_g RX0) (hr : meth.sig.returnType = (some .boolean)) (hlk : meth.locks = false) {K : Int32 → St → Prop} {B4 : Nat → Int32 → Int32 → Int32 → St → Prop} (hB4 : ∀ (x0 : Nat) (x1 : Int32) (x2 : Int32) (x3 : Int32) (S : St) (H : Heap) (locs : List Loc) (ls : Array Slot), B4 x0 x1 x2 x3 S → MM G b0 s S H locs → lv_has ls 6 [(0, .ref (b0 + x0)), (1, .int x1), (2, .int x2), (3, .int x3)] → W p l e rmX0_holdsTogether s m args below meth c H locs 0 0 (MQ below (va_Qi K (ME G b0) (AB b0)) args s 0 0 (AB b0)) (F0 m 4 ls [])) : ∀ (x0 : Nat) (x1 : Int32) (x2 : Int32) (x3 : Int32) (S : St) (H : Heap) (locs : List Loc) (ls : Array Slot), wX0_holdsTogether_72 K B4 x0 x1 x2 x3 S → MM G b0 s S H locs → lv_has ls 6 [(0, .ref (b0 + x0)), (1, .int x1), (2, .int x2), (3, .int x3)] → W p l e rmX0_holdsTogether s m args below meth c H locs 0 0 (MQ below (va_Qi K (ME G b0) (AB b0)) args s 0 0 (AB b0)) (F0 m 72 ls []) := by
  intro x0 x1 x2 x3 S H locs ls h hM hl
  unfold wX0_holdsTogether_72 at h
  obtain ⟨x3_2, ex3_2⟩ : ∃ y : Int32, y = x3 + 1 := ⟨_, rfl⟩
  have h := h x3_2 ex3_2
  refine lv_iinc (v := x3_2) (lv' := [(3, .int x3_2), (0, .ref (b0 + x0)), (1, .int x1), (2, .int x2)]) hC.1 hC.2.1 dX0_holdsTogether_72 hl (k := 3) rfl (by rw [ex3_2]; rfl) (by decide) rfl (fun ls hl => ?_)
  refine lv_goto (tgt := 4) hC.1 hC.2.1 dX0_holdsTogether_75 (by decide) ?_
  exact hB4 _ _ _ _ _ H locs ls h hM (lv_sub hl [1, 2, 3, 0] rfl)
set_option maxHeartbeats 4000000 in
set_option maxRecDepth 100000 in
theorem qX0_holdsTogether_15 {p : Program} {l : Launch} {e : Env} {s : State} {m : MethodId} {args : Array Value} {below : List Frame} {meth : Method} {c : Code} {G : Gt} {b0 : Nat} (hC : CallFix p m c cX0_holdsTogether 6 s args lw_g RX0) (hr : meth.sig.returnType = (some .boolean)) (hlk : meth.locks = false) {K : Int32 → St → Prop} {B4 : Nat → Int32 → Int32 → Int32 → St → Prop} (hB4 : ∀ (x0 : Nat) (x1 : Int32) (x2 : Int32) (x3 : Int32) (S : St) (H : Heap) (locs : List Loc) (ls : Array Slot), B4 x0 x1 x2 x3 S → MM G b0 s S H locs → lv_has ls 6 [(0, .ref (b0 + x0)), (1, .int x1), (2, .int x2), (3, .int x3)] → W p l e rmX0_holdsTogether s m args below meth c H locs 0 0 (MQ below (va_Qi K (ME G b0) (AB b0)) args s 0 0 (AB b0)) (F0 m 4 ls [])) : ∀ (n : Nat) (x0 : Nat) (x1 : Int32) (x2 : Int32) (x3 : Int32) (x4 : Int32) (S : St) (H : Heap) (locs : List Loc) (ls : Array Slot), wX0_holdsTogether_15 K B4 n x0 x1 x2 x3 x4 S → MM G b0 s S H locs → lv_has ls 6 [(0, .ref (b0 + x0)), (1, .int x1), (2, .int x2), (3, .int x3), (4, .int x4)] → W p l e rmX0_holdsTogether s m args below meth c H locs 0 0 (MQ below (va_Qi K (ME G b0) (AB b0)) args s 0 0 (AB b0)) (F0 m 15 ls []) := by
  intro n
  induction n with
  | zero =>
    intro x0 x1 x2 x3 x4 S H locs ls h
    exact False.elim h
  | succ n ih =>
    intro x0 x1 x2 x3 x4 S H locs ls h hM hl
    rw [wX0_holdsTogether_15] at h
    refine lv_iload hC.1 hC.2.1 dX0_holdsTogether_15 (lv_at hl 4 rfl) ?_
    refine lv_aload_n hC.1 hC.2.1 dX0_holdsTogether_17 rfl (lv_at hl 0 rfl) ?_
    obtain ⟨ok_3, h⟩ := h
    refine mm_gi hC hM (ci := 0) (j := 0) ok_3 rfl (by decide) (by decide) tw_31 rfl dX0_holdsTogether_18 ?_
    refine lv_icmp_ge (tgt := 72) hC.1 hC.2.1 dX0_holdsTogether_21 (by decide) (fun c_4 => ?_) (fun c_4 => ?_)
    · have h := h.1 c_4
      exact qX0_holdsTogether_72 hC hr hlk hB4 _ _ _ _ _ H locs ls h hM (lv_sub hl [0, 1, 2, 3] rfl)
    · have h := h.2 c_4
      refine lv_iconst (v := 1) hC.1 hC.2.1 dX0_holdsTogether_24 (by decide) ?_
      refine lv_aload_n hC.1 hC.2.1 dX0_holdsTogether_25 rfl (lv_at hl 0 rfl) ?_
      obtain ⟨ok_5, h⟩ := h
      refine mm_gr hC hM (ci := 0) (j := 6) ⟨ok_3, ok_5⟩ rfl (by decide) (by decide) tw_48 rfl dX0_holdsTogether_26 ?_
      refine lv_iload hC.1 hC.2.1 dX0_holdsTogether_29 (lv_at hl 4 rfl) ?_
      obtain ⟨ok_6, h⟩ := h
      refine mm_il hC hM ok_6 dX0_holdsTogether_31 ?_
      refine lv_ishl hC.1 hC.2.1 dX0_holdsTogether_32 ?_
      refine lv_iconst (v := 1) hC.1 hC.2.1 dX0_holdsTogether_33 (by decide) ?_
      refine lv_aload_n hC.1 hC.2.1 dX0_holdsTogether_34 rfl (lv_at hl 0 rfl) ?_
      obtain ⟨ok_7, h⟩ := h
      refine mm_gr hC hM (ci := 0) (j := 7) ⟨ok_3, ok_7⟩ rfl (by decide) (by decide) tw_50 rfl dX0_holdsTogether_35 ?_
      refine lv_iload hC.1 hC.2.1 dX0_holdsTogether_38 (lv_at hl 4 rfl) ?_
      obtain ⟨ok_8, h⟩ := h
      refine mm_il hC hM ok_8 dX0_holdsTogether_40 ?_
      refine lv_ishl hC.1 hC.2.1 dX0_holdsTogether_41 ?_
      refine lv_ior hC.1 hC.2.1 dX0_holdsTogether_42 ?_
      refine lv_topi (fun x5_9 ex5_9 => ?_)
      have h := h x5_9 ex5_9
      refine lv_istore (lv' := [(5, .int x5_9), (0, .ref (b0 + x0)), (1, .int x1), (2, .int x2), (3, .int x3), (4, .int x4)]) hC.1 hC.2.1 dX0_holdsTogether_43 hl (by decide) rfl (fun ls hl => ?_)
      refine lv_iload_n hC.1 hC.2.1 dX0_holdsTogether_45 rfl (lv_at hl 2 rfl) ?_
      refine lv_iload hC.1 hC.2.1 dX0_holdsTogether_46 (lv_at hl 5 rfl) ?_
      refine lv_ishr hC.1 hC.2.1 dX0_holdsTogether_48 ?_
      refine lv_iconst (v := 1) hC.1 hC.2.1 dX0_holdsTogether_49 (by decide) ?_
      refine lv_iand hC.1 hC.2.1 dX0_holdsTogether_50 ?_
      refine lv_if_eq (tgt := 66) hC.1 hC.2.1 dX0_holdsTogether_51 (by decide) (fun c_10 => ?_) (fun c_10 => ?_)
      · have h := h.1 c_10
        exact qX0_holdsTogether_66 hC hr hlk ih _ _ _ _ _ _ H locs ls h hM (lv_sub hl [1, 2, 3, 4, 5] rfl)
      · have h := h.2 c_10
        refine lv_iload_n hC.1 hC.2.1 dX0_holdsTogether_54 rfl (lv_at hl 3 rfl) ?_
        refine lv_iload hC.1 hC.2.1 dX0_holdsTogether_55 (lv_at hl 0 rfl) ?_
        refine lv_iand hC.1 hC.2.1 dX0_holdsTogether_57 ?_
        refine lv_if_eq (tgt := 66) hC.1 hC.2.1 dX0_holdsTogether_58 (by decide) (fun c_11 => ?_) (fun c_11 => ?_)
        · have h := h.1 c_11
          exact qX0_holdsTogether_66 hC hr hlk ih _ _ _ _ _ _ H locs ls h hM (lv_sub hl [1, 2, 3, 4, 5] rfl)
        · have h := h.2 c_11
          refine lv_iload_n hC.1 hC.2.1 dX0_holdsTogether_61 rfl (lv_at hl 3 rfl) ?_
          refine lv_iload hC.1 hC.2.1 dX0_holdsTogether_62 (lv_at hl 0 rfl) ?_
          refine lv_ior hC.1 hC.2.1 dX0_holdsTogether_64 ?_
          refine lv_topi (fun x2_12 ex2_12 => ?_)
          have h := h x2_12 ex2_12
          refine lv_istore_n (lv' := [(2, .int x2_12), (5, .int x5_9), (0, .ref (b0 + x0)), (1, .int x1), (3, .int x3), (4, .int x4)]) hC.1 hC.2.1 dX0_holdsTogether_65 rfl hl (by decide) rfl (fun ls hl => ?_)
          exact qX0_holdsTogether_66 hC hr hlk ih _ _ _ _ _ _ H locs ls h hM (lv_sub hl [2, 3, 0, 4, 5] rfl)
set_option maxHeartbeats 4000000 in
set_option maxRecDepth 100000 in
theorem qX0_holdsTogether_78 {p : Program} {l : Launch} {e : Env} {s : State} {m : MethodId} {args : Array Value} {below : List Frame} {meth : Method} {c : Code} {G : Gt} {b0 : Nat} (hC : CallFix p m c cX0_holdsTogether 6 s args lw_g RX0) (hr : meth.sig.returnType = (some .boolean)) (hlk : meth.locks = false) {K : Int32 → St → Prop} : ∀ (x0 : Nat) (x2 : Int32) (S : St) (H : Heap) (locs : List Loc) (ls : Array Slot), wX0_holdsTogether_78 K x0 x2 S → MM G b0 s S H locs → lv_has ls 6 [(0, .ref (b0 + x0)), (2, .int x2)] → W p l e rmX0_holdsTogether s m args below meth c H locs 0 0 (MQ below (va_Qi K (ME G b0) (AB b0)) args s 0 0 (AB b0)) (F0 m 78 ls []) := by
  intro x0 x2 S H locs ls h hM hl
  unfold wX0_holdsTogether_78 at h
  refine lv_iload_n hC.1 hC.2.1 dX0_holdsTogether_78 rfl (lv_at hl 1 rfl) ?_
  refine lv_iconst (v := 1) hC.1 hC.2.1 dX0_holdsTogether_79 (by decide) ?_
  refine lv_aload_n hC.1 hC.2.1 dX0_holdsTogether_80 rfl (lv_at hl 0 rfl) ?_
  obtain ⟨ok_13, h⟩ := h
  refine mm_gi hC hM (ci := 0) (j := 2) ok_13 rfl (by decide) (by decide) tw_38 rfl dX0_holdsTogether_81 ?_
  refine lv_ishl hC.1 hC.2.1 dX0_holdsTogether_84 ?_
  refine lv_iconst (v := 1) hC.1 hC.2.1 dX0_holdsTogether_85 (by decide) ?_
  refine lv_isub hC.1 hC.2.1 dX0_holdsTogether_86 ?_
  refine lv_icmp_ne (tgt := 94) hC.1 hC.2.1 dX0_holdsTogether_87 (by decide) (fun c_14 => ?_) (fun c_14 => ?_)
  · have h := h.2 c_14
    refine lv_iconst (v := 0) hC.1 hC.2.1 dX0_holdsTogether_94 (by decide) ?_
    exact mm_zret hC hr hlk hM rfl h dX0_holdsTogether_95
  · have h := h.1 c_14
    refine lv_iconst (v := 1) hC.1 hC.2.1 dX0_holdsTogether_90 (by decide) ?_
    refine lv_goto (tgt := 95) hC.1 hC.2.1 dX0_holdsTogether_91 (by decide) ?_
    exact mm_zret hC hr hlk hM rfl h dX0_holdsTogether_95
set_option maxHeartbeats 4000000 in
set_option maxRecDepth 100000 in
theorem qX0_holdsTogether_4 {p : Program} {l : Launch} {e : Env} {s : State} {m : MethodId} {args : Array Value} {below : List Frame} {meth : Method} {c : Code} {G : Gt} {b0 : Nat} (hC : CallFix p m c cX0_holdsTogether 6 s args lw_g RX0) (hr : meth.sig.returnType = (some .boolean)) (hlk : meth.locks = false) {K : Int32 → St → Prop} : ∀ (n : Nat) (x0 : Nat) (x1 : Int32) (x2 : Int32) (x3 : Int32) (S : St) (H : Heap) (locs : List Loc) (ls : Array Slot), wX0_holdsTogether_4 K n x0 x1 x2 x3 S → MM G b0 s S H locs → lv_has ls 6 [(0, .ref (b0 + x0)), (1, .int x1), (2, .int x2), (3, .int x3)] → W p l e rmX0_holdsTogether s m args below meth c H locs 0 0 (MQ below (va_Qi K (ME G b0) (AB b0)) args s 0 0 (AB b0)) (F0 m 4 ls []) := by
  intro n
  induction n with
  | zero =>
    intro x0 x1 x2 x3 S H locs ls h
    exact False.elim h
  | succ n ih =>
    intro x0 x1 x2 x3 S H locs ls h hM hl
    rw [wX0_holdsTogether_4] at h
    refine lv_iload_n hC.1 hC.2.1 dX0_holdsTogether_4 rfl (lv_at hl 3 rfl) ?_
    refine lv_aload_n hC.1 hC.2.1 dX0_holdsTogether_5 rfl (lv_at hl 0 rfl) ?_
    obtain ⟨ok_15, h⟩ := h
    refine mm_gi hC hM (ci := 0) (j := 2) ok_15 rfl (by decide) (by decide) tw_38 rfl dX0_holdsTogether_6 ?_
    refine lv_icmp_ge (tgt := 78) hC.1 hC.2.1 dX0_holdsTogether_9 (by decide) (fun c_16 => ?_) (fun c_16 => ?_)
    · have h := h.1 c_16
      exact qX0_holdsTogether_78 hC hr hlk _ _ _ H locs ls h hM (lv_sub hl [0, 2] rfl)
    · have h := h.2 c_16
      refine lv_iconst (v := 0) hC.1 hC.2.1 dX0_holdsTogether_12 (by decide) ?_
      refine lv_istore (lv' := [(4, .int 0), (0, .ref (b0 + x0)), (1, .int x1), (2, .int x2), (3, .int x3)]) hC.1 hC.2.1 dX0_holdsTogether_13 hl (by decide) rfl (fun ls hl => ?_)
      obtain ⟨n1, h⟩ := h
      exact qX0_holdsTogether_15 hC hr hlk ih n1 _ _ _ _ _ _ H locs ls h hM (lv_sub hl [1, 2, 3, 4, 0] rfl)
set_option maxHeartbeats 4000000 in
set_option maxRecDepth 100000 in
theorem mX0_holdsTogether (l : Launch) (G : Gt) (b0 : Nat) (S : St) (o : Nat) (x1 : Int32) (K : Int32 → St → Prop) : CI l G b0 S yX0_holdsTogether cX0_holdsTogether 6 (some .boolean) rmX0_holdsTogether [.ref (b0 + o), .int x1] (wX0_holdsTogether S o x1 K) K := by
  refine met_of (by decide) (Nat.le_of_ble_eq_true rfl) rfl ?_
  intro p e s m below meth c hC hr hlk hin h H locs ls hM hl
  unfold wX0_holdsTogether at h
  refine lv_iconst (v := 1) hC.1 hC.2.1 dX0_holdsTogether_0 (by decide) ?_
  refine lv_istore_n (lv' := [(2, .int 1), (0, .ref (b0 + o)), (1, .int x1)]) hC.1 hC.2.1 dX0_holdsTogether_1 rfl hl (by decide) rfl (fun ls hl => ?_)
  refine lv_iconst (v := 1) hC.1 hC.2.1 dX0_holdsTogether_2 (by decide) ?_
  refine lv_istore_n (lv' := [(3, .int 1), (2, .int 1), (0, .ref (b0 + o)), (1, .int x1)]) hC.1 hC.2.1 dX0_holdsTogether_3 rfl hl (by decide) rfl (fun ls hl => ?_)
  obtain ⟨n1, h⟩ := h
  exact qX0_holdsTogether_4 hC hr hlk n1 _ _ _ _ _ H locs ls h hM (lv_sub hl [2, 3, 1, 0] rfl)
set_option maxHeartbeats 4000000 in
set_option maxRecDepth 100000 in
theorem qX0_roadFrom_40 {p : Program} {l : Launch} {e : Env} {s : State} {m : MethodId} {args : Array Value} {below : List Frame} {meth : Method} {c : Code} {G : Gt} {b0 : Nat} (hC : CallFix p m c cX0_roadFrom 4 s args lw_g RX0) (hr : meth.sig.returnType = (some .int)) (hlk : meth.locks = false) {K : Int32 → St → Prop} {B2 : Nat → Int32 → Int32 → Int32 → St → Prop} (hB2 : ∀ (x0 : Nat) (x1 : Int32) (x2 : Int32) (x3 : Int32) (S : St) (H : Heap) (locs : List Loc) (ls : Array Slot), B2 x0 x1 x2 x3 S → MM G b0 s S H locs → lv_has ls 4 [(0, .ref (b0 + x0)), (1, .int x1), (2, .int x2), (3, .int x3)] → W p l e rmX0_roadFrom s m args below meth c H locs 0 0 (MQ below (va_Qi K (ME G b0) (AB b0)) args s 0 0 (AB b0)) (F0 m 2 ls [])) : ∀ (x0 : Nat) (x1 : Int32) (x2 : Int32) (x3 : Int32) (S : St) (H : Heap) (locs : List Loc) (ls : Array Slot), wX0_roadFrom_40 K B2 x0 x1 x2 x3 S → MM G b0 s S H locs → lv_has ls 4 [(0, .ref (b0 + x0)), (1, .int x1), (2, .int x2), (3, .int x3)] → W p l e rmX0_roadFrom s m args below meth c H locs 0 0 (MQ below (va_Qi K (ME G b0) (AB b0)) args s 0 0 (AB b0)) (F0 m 40 ls []) := by
  intro x0 x1 x2 x3 S H locs ls h hM hl
  unfold wX0_roadFrom_40 at h
  obtain ⟨x3_1, ex3_1⟩ : ∃ y : Int32, y = x3 + 1 := ⟨_, rfl⟩
  have h := h x3_1 ex3_1
  refine lv_iinc (v := x3_1) (lv' := [(3, .int x3_1), (0, .ref (b0 + x0)), (1, .int x1), (2, .int x2)]) hC.1 hC.2.1 dX0_roadFrom_40 hl (k := 3) rfl (by rw [ex3_1]; rfl) (by decide) rfl (fun ls hl => ?_)
  refine lv_goto (tgt := 2) hC.1 hC.2.1 dX0_roadFrom_43 (by decide) ?_
  exact hB2 _ _ _ _ _ H locs ls h hM (lv_sub hl [1, 2, 3, 0] rfl)
set_option maxHeartbeats 4000000 in
set_option maxRecDepth 100000 in
theorem qX0_roadFrom_2 {p : Program} {l : Launch} {e : Env} {s : State} {m : MethodId} {args : Array Value} {below : List Frame} {meth : Method} {c : Code} {G : Gt} {b0 : Nat} (hC : CallFix p m c cX0_roadFrom 4 s args lw_g RX0) (hr : meth.sig.returnType = (some .int)) (hlk : meth.locks = false) {K : Int32 → St → Prop} : ∀ (n : Nat) (x0 : Nat) (x1 : Int32) (x2 : Int32) (x3 : Int32) (S : St) (H : Heap) (locs : List Loc) (ls : Array Slot), wX0_roadFrom_2 K n x0 x1 x2 x3 S → MM G b0 s S H locs → lv_has ls 4 [(0, .ref (b0 + x0)), (1, .int x1), (2, .int x2), (3, .int x3)] → W p l e rmX0_roadFrom s m args below meth c H locs 0 0 (MQ below (va_Qi K (ME G b0) (AB b0)) args s 0 0 (AB b0)) (F0 m 2 ls []) := by
  intro n
  induction n with
  | zero =>
    intro x0 x1 x2 x3 S H locs ls h
    exact False.elim h
  | succ n ih =>
    intro x0 x1 x2 x3 S H locs ls h hM hl
    rw [wX0_roadFrom_2] at h
    refine lv_iload_n hC.1 hC.2.1 dX0_roadFrom_2 rfl (lv_at hl 3 rfl) ?_
    refine lv_aload_n hC.1 hC.2.1 dX0_roadFrom_3 rfl (lv_at hl 0 rfl) ?_
    obtain ⟨ok_2, h⟩ := h
    refine mm_gi hC hM (ci := 0) (j := 0) ok_2 rfl (by decide) (by decide) tw_31 rfl dX0_roadFrom_4 ?_
    refine lv_icmp_ge (tgt := 46) hC.1 hC.2.1 dX0_roadFrom_7 (by decide) (fun c_3 => ?_) (fun c_3 => ?_)
    · have h := h.1 c_3
      refine lv_iconst (v := (-1)) hC.1 hC.2.1 dX0_roadFrom_46 (by decide) ?_
      exact mm_iret hC hr hlk hM h dX0_roadFrom_47
    · have h := h.2 c_3
      refine lv_iload_n hC.1 hC.2.1 dX0_roadFrom_10 rfl (lv_at hl 2 rfl) ?_
      refine lv_iload_n hC.1 hC.2.1 dX0_roadFrom_11 rfl (lv_at hl 3 rfl) ?_
      refine lv_ishr hC.1 hC.2.1 dX0_roadFrom_12 ?_
      refine lv_iconst (v := 1) hC.1 hC.2.1 dX0_roadFrom_13 (by decide) ?_
      refine lv_iand hC.1 hC.2.1 dX0_roadFrom_14 ?_
      refine lv_if_eq (tgt := 40) hC.1 hC.2.1 dX0_roadFrom_15 (by decide) (fun c_4 => ?_) (fun c_4 => ?_)
      · have h := h.1 c_4
        exact qX0_roadFrom_40 hC hr hlk ih _ _ _ _ _ H locs ls h hM (lv_sub hl [0, 1, 2, 3] rfl)
      · have h := h.2 c_4
        refine lv_aload_n hC.1 hC.2.1 dX0_roadFrom_18 rfl (lv_at hl 0 rfl) ?_
        obtain ⟨ok_5, h⟩ := h
        refine mm_gr hC hM (ci := 0) (j := 6) ⟨ok_2, ok_5⟩ rfl (by decide) (by decide) tw_48 rfl dX0_roadFrom_19 ?_
        refine lv_iload_n hC.1 hC.2.1 dX0_roadFrom_22 rfl (lv_at hl 3 rfl) ?_
        obtain ⟨ok_6, h⟩ := h
        refine mm_il hC hM ok_6 dX0_roadFrom_23 ?_
        refine lv_iload_n hC.1 hC.2.1 dX0_roadFrom_24 rfl (lv_at hl 1 rfl) ?_
        refine lv_icmp_eq (tgt := 38) hC.1 hC.2.1 dX0_roadFrom_25 (by decide) (fun c_7 => ?_) (fun c_7 => ?_)
        · have h := h.1 c_7
          refine lv_iload_n hC.1 hC.2.1 dX0_roadFrom_38 rfl (lv_at hl 3 rfl) ?_
          exact mm_iret hC hr hlk hM h dX0_roadFrom_39
        · have h := h.2 c_7
          refine lv_aload_n hC.1 hC.2.1 dX0_roadFrom_28 rfl (lv_at hl 0 rfl) ?_
          obtain ⟨ok_8, h⟩ := h
          refine mm_gr hC hM (ci := 0) (j := 7) ⟨ok_2, ok_8⟩ rfl (by decide) (by decide) tw_50 rfl dX0_roadFrom_29 ?_
          refine lv_iload_n hC.1 hC.2.1 dX0_roadFrom_32 rfl (lv_at hl 3 rfl) ?_
          obtain ⟨ok_9, h⟩ := h
          refine mm_il hC hM ok_9 dX0_roadFrom_33 ?_
          refine lv_iload_n hC.1 hC.2.1 dX0_roadFrom_34 rfl (lv_at hl 1 rfl) ?_
          refine lv_icmp_ne (tgt := 40) hC.1 hC.2.1 dX0_roadFrom_35 (by decide) (fun c_10 => ?_) (fun c_10 => ?_)
          · have h := h.2 c_10
            exact qX0_roadFrom_40 hC hr hlk ih _ _ _ _ _ H locs ls h hM (lv_sub hl [0, 1, 2, 3] rfl)
          · have h := h.1 c_10
            refine lv_iload_n hC.1 hC.2.1 dX0_roadFrom_38 rfl (lv_at hl 3 rfl) ?_
            exact mm_iret hC hr hlk hM h dX0_roadFrom_39
set_option maxHeartbeats 4000000 in
set_option maxRecDepth 100000 in
theorem mX0_roadFrom (l : Launch) (G : Gt) (b0 : Nat) (S : St) (o : Nat) (x1 : Int32) (x2 : Int32) (K : Int32 → St → Prop) : CI l G b0 S yX0_roadFrom cX0_roadFrom 4 (some .int) rmX0_roadFrom [.ref (b0 + o), .int x1, .int x2] (wX0_roadFrom S o x1 x2 K) K := by
  refine met_of (by decide) (Nat.le_of_ble_eq_true rfl) rfl ?_
  intro p e s m below meth c hC hr hlk hin h H locs ls hM hl
  unfold wX0_roadFrom at h
  refine lv_iconst (v := 0) hC.1 hC.2.1 dX0_roadFrom_0 (by decide) ?_
  refine lv_istore_n (lv' := [(3, .int 0), (0, .ref (b0 + o)), (1, .int x1), (2, .int x2)]) hC.1 hC.2.1 dX0_roadFrom_1 rfl hl (by decide) rfl (fun ls hl => ?_)
  obtain ⟨n1, h⟩ := h
  exact qX0_roadFrom_2 hC hr hlk n1 _ _ _ _ _ H locs ls h hM (lv_sub hl [1, 2, 3, 0] rfl)
set_option maxHeartbeats 4000000 in
set_option maxRecDepth 100000 in
theorem qX0_isWay_67 {p : Program} {l : Launch} {e : Env} {s : State} {m : MethodId} {args : Array Value} {below : List Frame} {meth : Method} {c : Code} {G : Gt} {b0 : Nat} (hC : CallFix p m c cX0_isWay 7 s args lw_g RX0) (hr : meth.sig.returnType = (some .boolean)) (hlk : meth.locks = false) {K : Int32 → St → Prop} {B10 : Nat → Int32 → Int32 → Int32 → Int32 → St → Prop} (hB10 : ∀ (x0 : Nat) (x2 : Int32) (x3 : Int32) (x4 : Int32) (x5 : Int32) (S : St) (H : Heap) (locs : List Loc) (ls : Array Slot), B10 x0 x2 x3 x4 x5 S → MM G b0 s S H locs → lv_has ls 7 [(0, .ref (b0 + x0)), (2, .int x2), (3, .int x3), (4, .int x4), (5, .int x5)] → W p l e rmX0_isWay s m args below meth c H locs 0 0 (MQ below (va_Qi K (ME G b0) (AB b0)) args s 0 0 (AB b0)) (F0 m 10 ls [])) : ∀ (x0 : Nat) (x3 : Int32) (x4 : Int32) (x5 : Int32) (x6 : Int32) (t0 : Int32) (S : St) (H : Heap) (locs : List Loc) (ls : Array Slot), wX0_isWay_67 K B10 x0 x3 x4 x5 x6 t0 S → MM G b0 s S H locs → lv_has ls 7 [(0, .ref (b0 + x0)), (3, .int x3), (4, .int x4), (5, .int x5), (6, .int x6)] → W p l e rmX0_isWay s m args below meth c H locs 0 0 (MQ below (va_Qi K (ME G b0) (AB b0)) args s 0 0 (AB b0)) (F0 m 67 ls [.int t0]) := by
  intro x0 x3 x4 x5 x6 t0 S H locs ls h hM hl
  unfold wX0_isWay_67 at h
  refine lv_istore_n (lv' := [(2, .int t0), (0, .ref (b0 + x0)), (3, .int x3), (4, .int x4), (5, .int x5), (6, .int x6)]) hC.1 hC.2.1 dX0_isWay_67 rfl hl (by decide) rfl (fun ls hl => ?_)
  refine lv_iload_n hC.1 hC.2.1 dX0_isWay_68 rfl (lv_at hl 2 rfl) ?_
  refine lv_iload_n hC.1 hC.2.1 dX0_isWay_69 rfl (lv_at hl 0 rfl) ?_
  refine lv_ishr hC.1 hC.2.1 dX0_isWay_70 ?_
  refine lv_iconst (v := 1) hC.1 hC.2.1 dX0_isWay_71 (by decide) ?_
  refine lv_iand hC.1 hC.2.1 dX0_isWay_72 ?_
  refine lv_if_eq (tgt := 78) hC.1 hC.2.1 dX0_isWay_73 (by decide) (fun c_1 => ?_) (fun c_1 => ?_)
  · have h := h.1 c_1
    refine lv_iload_n hC.1 hC.2.1 dX0_isWay_78 rfl (lv_at hl 2 rfl) ?_
    refine lv_iconst (v := 1) hC.1 hC.2.1 dX0_isWay_79 (by decide) ?_
    refine lv_iload_n hC.1 hC.2.1 dX0_isWay_80 rfl (lv_at hl 0 rfl) ?_
    refine lv_ishl hC.1 hC.2.1 dX0_isWay_81 ?_
    refine lv_ior hC.1 hC.2.1 dX0_isWay_82 ?_
    refine lv_topi (fun x3_2 ex3_2 => ?_)
    have h := h x3_2 ex3_2
    refine lv_istore_n (lv' := [(3, .int x3_2), (2, .int t0), (0, .ref (b0 + x0)), (4, .int x4), (5, .int x5), (6, .int x6)]) hC.1 hC.2.1 dX0_isWay_83 rfl hl (by decide) rfl (fun ls hl => ?_)
    refine lv_iload hC.1 hC.2.1 dX0_isWay_84 (lv_at hl 3 rfl) ?_
    refine lv_iconst (v := 1) hC.1 hC.2.1 dX0_isWay_86 (by decide) ?_
    refine lv_iload hC.1 hC.2.1 dX0_isWay_87 (lv_at hl 5 rfl) ?_
    refine lv_ishl hC.1 hC.2.1 dX0_isWay_89 ?_
    refine lv_iconst (v := (-1)) hC.1 hC.2.1 dX0_isWay_90 (by decide) ?_
    refine lv_ixor hC.1 hC.2.1 dX0_isWay_91 ?_
    refine lv_iand hC.1 hC.2.1 dX0_isWay_92 ?_
    refine lv_topi (fun x4_3 ex4_3 => ?_)
    have h := h x4_3 ex4_3
    refine lv_istore (lv' := [(4, .int x4_3), (3, .int x3_2), (2, .int t0), (0, .ref (b0 + x0)), (5, .int x5), (6, .int x6)]) hC.1 hC.2.1 dX0_isWay_93 hl (by decide) rfl (fun ls hl => ?_)
    obtain ⟨x5_4, ex5_4⟩ : ∃ y : Int32, y = x5 + 1 := ⟨_, rfl⟩
    have h := h x5_4 ex5_4
    refine lv_iinc (v := x5_4) (lv' := [(5, .int x5_4), (4, .int x4_3), (3, .int x3_2), (2, .int t0), (0, .ref (b0 + x0)), (6, .int x6)]) hC.1 hC.2.1 dX0_isWay_95 hl (k := 4) rfl (by rw [ex5_4]; rfl) (by decide) rfl (fun ls hl => ?_)
    refine lv_goto (tgt := 10) hC.1 hC.2.1 dX0_isWay_98 (by decide) ?_
    exact hB10 _ _ _ _ _ _ H locs ls h hM (lv_sub hl [4, 3, 2, 1, 0] rfl)
  · have h := h.2 c_1
    refine lv_iconst (v := 0) hC.1 hC.2.1 dX0_isWay_76 (by decide) ?_
    exact mm_zret hC hr hlk hM rfl h dX0_isWay_77
set_option maxHeartbeats 4000000 in
set_option maxRecDepth 100000 in
theorem qX0_isWay_101 {p : Program} {l : Launch} {e : Env} {s : State} {m : MethodId} {args : Array Value} {below : List Frame} {meth : Method} {c : Code} {G : Gt} {b0 : Nat} (hC : CallFix p m c cX0_isWay 7 s args lw_g RX0) (hr : meth.sig.returnType = (some .boolean)) (hlk : meth.locks = false) {K : Int32 → St → Prop} : ∀ (x0 : Nat) (x2 : Int32) (x4 : Int32) (S : St) (H : Heap) (locs : List Loc) (ls : Array Slot), wX0_isWay_101 K x0 x2 x4 S → MM G b0 s S H locs → lv_has ls 7 [(0, .ref (b0 + x0)), (2, .int x2), (4, .int x4)] → W p l e rmX0_isWay s m args below meth c H locs 0 0 (MQ below (va_Qi K (ME G b0) (AB b0)) args s 0 0 (AB b0)) (F0 m 101 ls []) := by
  intro x0 x2 x4 S H locs ls h hM hl
  unfold wX0_isWay_101 at h
  refine lv_iload hC.1 hC.2.1 dX0_isWay_101 (lv_at hl 2 rfl) ?_
  refine lv_if_ne (tgt := 118) hC.1 hC.2.1 dX0_isWay_103 (by decide) (fun c_5 => ?_) (fun c_5 => ?_)
  · have h := h.2 c_5
    refine lv_iconst (v := 0) hC.1 hC.2.1 dX0_isWay_118 (by decide) ?_
    exact mm_zret hC hr hlk hM rfl h dX0_isWay_119
  · have h := h.1 c_5
    refine lv_iload_n hC.1 hC.2.1 dX0_isWay_106 rfl (lv_at hl 1 rfl) ?_
    refine lv_aload_n hC.1 hC.2.1 dX0_isWay_107 rfl (lv_at hl 0 rfl) ?_
    obtain ⟨ok_6, h⟩ := h
    refine mm_gi hC hM (ci := 0) (j := 2) ok_6 rfl (by decide) (by decide) tw_38 rfl dX0_isWay_108 ?_
    refine lv_icmp_ne (tgt := 118) hC.1 hC.2.1 dX0_isWay_111 (by decide) (fun c_7 => ?_) (fun c_7 => ?_)
    · have h := h.2 c_7
      refine lv_iconst (v := 0) hC.1 hC.2.1 dX0_isWay_118 (by decide) ?_
      exact mm_zret hC hr hlk hM rfl h dX0_isWay_119
    · have h := h.1 c_7
      refine lv_iconst (v := 1) hC.1 hC.2.1 dX0_isWay_114 (by decide) ?_
      refine lv_goto (tgt := 119) hC.1 hC.2.1 dX0_isWay_115 (by decide) ?_
      exact mm_zret hC hr hlk hM rfl h dX0_isWay_119
set_option maxHeartbeats 4000000 in
set_option maxRecDepth 100000 in
theorem qX0_isWay_10 {p : Program} {l : Launch} {e : Env} {s : State} {m : MethodId} {args : Array Value} {below : List Frame} {meth : Method} {c : Code} {G : Gt} {b0 : Nat} (hC : CallFix p m c cX0_isWay 7 s args lw_g RX0) (hr : meth.sig.returnType = (some .boolean)) (hlk : meth.locks = false) {K : Int32 → St → Prop} : ∀ (n : Nat) (x0 : Nat) (x2 : Int32) (x3 : Int32) (x4 : Int32) (x5 : Int32) (S : St) (H : Heap) (locs : List Loc) (ls : Array Slot), wX0_isWay_10 K n x0 x2 x3 x4 x5 S → MM G b0 s S H locs → lv_has ls 7 [(0, .ref (b0 + x0)), (2, .int x2), (3, .int x3), (4, .int x4), (5, .int x5)] → W p l e rmX0_isWay s m args below meth c H locs 0 0 (MQ below (va_Qi K (ME G b0) (AB b0)) args s 0 0 (AB b0)) (F0 m 10 ls []) := by
  intro n
  induction n with
  | zero =>
    intro x0 x2 x3 x4 x5 S H locs ls h
    exact False.elim h
  | succ n ih =>
    intro x0 x2 x3 x4 x5 S H locs ls h hM hl
    rw [wX0_isWay_10] at h
    refine lv_iload hC.1 hC.2.1 dX0_isWay_10 (lv_at hl 4 rfl) ?_
    refine lv_bipush (v := 6) hC.1 hC.2.1 dX0_isWay_12 (by decide) ?_
    refine lv_icmp_ge (tgt := 101) hC.1 hC.2.1 dX0_isWay_14 (by decide) (fun c_8 => ?_) (fun c_8 => ?_)
    · have h := h.1 c_8
      exact qX0_isWay_101 hC hr hlk _ _ _ _ H locs ls h hM (lv_sub hl [0, 1, 3] rfl)
    · have h := h.2 c_8
      refine lv_iload hC.1 hC.2.1 dX0_isWay_17 (lv_at hl 3 rfl) ?_
      refine lv_if_eq (tgt := 101) hC.1 hC.2.1 dX0_isWay_19 (by decide) (fun c_9 => ?_) (fun c_9 => ?_)
      · have h := h.1 c_9
        exact qX0_isWay_101 hC hr hlk _ _ _ _ H locs ls h hM (lv_sub hl [0, 1, 3] rfl)
      · have h := h.2 c_9
        refine lv_aload_n hC.1 hC.2.1 dX0_isWay_22 rfl (lv_at hl 0 rfl) ?_
        refine lv_iload_n hC.1 hC.2.1 dX0_isWay_23 rfl (lv_at hl 1 rfl) ?_
        refine lv_iload hC.1 hC.2.1 dX0_isWay_24 (lv_at hl 3 rfl) ?_
        obtain ⟨ok_12, h⟩ := h
        refine mm_ri hM (mm_V (As := [.int x2, .int x4]) (rest := []) hC hM hl.1 (mX0_roadFrom l G b0 S x0 x2 x4 _) h (ci := 0) ok_12 rfl rfl kX0_roadFrom tw_126 rfl (by decide) rfl (Nat.le_of_ble_eq_true rfl) dX0_isWay_26 (by decide)) (fun r_11 S_10 H locs h hM => ?_)
        refine lv_istore (lv' := [(6, .int r_11), (0, .ref (b0 + x0)), (2, .int x2), (3, .int x3), (4, .int x4), (5, .int x5)]) hC.1 hC.2.1 dX0_isWay_29 hl (by decide) rfl (fun ls hl => ?_)
        refine lv_iload hC.1 hC.2.1 dX0_isWay_31 (lv_at hl 0 rfl) ?_
        refine lv_iconst (v := (-1)) hC.1 hC.2.1 dX0_isWay_33 (by decide) ?_
        refine lv_icmp_ne (tgt := 39) hC.1 hC.2.1 dX0_isWay_34 (by decide) (fun c_13 => ?_) (fun c_13 => ?_)
        · have h := h.2 c_13
          refine lv_aload_n hC.1 hC.2.1 dX0_isWay_39 rfl (lv_at hl 1 rfl) ?_
          obtain ⟨ok_14, h⟩ := h
          refine mm_gr hC hM (ci := 0) (j := 6) ok_14 rfl (by decide) (by decide) tw_48 rfl dX0_isWay_40 ?_
          refine lv_iload hC.1 hC.2.1 dX0_isWay_43 (lv_at hl 0 rfl) ?_
          obtain ⟨ok_15, h⟩ := h
          refine mm_il hC hM ok_15 dX0_isWay_45 ?_
          refine lv_iload_n hC.1 hC.2.1 dX0_isWay_46 rfl (lv_at hl 2 rfl) ?_
          refine lv_icmp_ne (tgt := 60) hC.1 hC.2.1 dX0_isWay_47 (by decide) (fun c_16 => ?_) (fun c_16 => ?_)
          · have h := h.2 c_16
            refine lv_aload_n hC.1 hC.2.1 dX0_isWay_60 rfl (lv_at hl 1 rfl) ?_
            refine mm_gr hC hM (ci := 0) (j := 6) ok_14 rfl (by decide) (by decide) tw_48 rfl dX0_isWay_61 ?_
            refine lv_iload hC.1 hC.2.1 dX0_isWay_64 (lv_at hl 0 rfl) ?_
            refine mm_il hC hM ok_15 dX0_isWay_66 ?_
            exact qX0_isWay_67 hC hr hlk ih _ _ _ _ _ _ _ H locs ls h hM (lv_sub hl [1, 3, 4, 5, 0] rfl)
          · have h := h.1 c_16
            refine lv_aload_n hC.1 hC.2.1 dX0_isWay_50 rfl (lv_at hl 1 rfl) ?_
            obtain ⟨ok_17, h⟩ := h
            refine mm_gr hC hM (ci := 0) (j := 7) ⟨ok_14.1, ok_17⟩ rfl (by decide) (by decide) tw_50 rfl dX0_isWay_51 ?_
            refine lv_iload hC.1 hC.2.1 dX0_isWay_54 (lv_at hl 0 rfl) ?_
            obtain ⟨ok_18, h⟩ := h
            refine mm_il hC hM ok_18 dX0_isWay_56 ?_
            refine lv_goto (tgt := 67) hC.1 hC.2.1 dX0_isWay_57 (by decide) ?_
            exact qX0_isWay_67 hC hr hlk ih _ _ _ _ _ _ _ H locs ls h hM (lv_sub hl [1, 3, 4, 5, 0] rfl)
        · have h := h.1 c_13
          refine lv_iconst (v := 0) hC.1 hC.2.1 dX0_isWay_37 (by decide) ?_
          exact mm_zret hC hr hlk hM rfl h dX0_isWay_38
set_option maxHeartbeats 4000000 in
set_option maxRecDepth 100000 in
theorem mX0_isWay (l : Launch) (G : Gt) (b0 : Nat) (S : St) (o : Nat) (x1 : Int32) (K : Int32 → St → Prop) : CI l G b0 S yX0_isWay cX0_isWay 7 (some .boolean) rmX0_isWay [.ref (b0 + o), .int x1] (wX0_isWay S o x1 K) K := by
  refine met_of (by decide) (Nat.le_of_ble_eq_true rfl) rfl ?_
  intro p e s m below meth c hC hr hlk hin h H locs ls hM hl
  unfold wX0_isWay at h
  refine lv_iconst (v := 0) hC.1 hC.2.1 dX0_isWay_0 (by decide) ?_
  refine lv_istore_n (lv' := [(2, .int 0), (0, .ref (b0 + o)), (1, .int x1)]) hC.1 hC.2.1 dX0_isWay_1 rfl hl (by decide) rfl (fun ls hl => ?_)
  refine lv_iconst (v := 1) hC.1 hC.2.1 dX0_isWay_2 (by decide) ?_
  refine lv_istore_n (lv' := [(3, .int 1), (2, .int 0), (0, .ref (b0 + o)), (1, .int x1)]) hC.1 hC.2.1 dX0_isWay_3 rfl hl (by decide) rfl (fun ls hl => ?_)
  refine lv_iload_n hC.1 hC.2.1 dX0_isWay_4 rfl (lv_at hl 3 rfl) ?_
  refine lv_istore (lv' := [(4, .int x1), (3, .int 1), (2, .int 0), (0, .ref (b0 + o)), (1, .int x1)]) hC.1 hC.2.1 dX0_isWay_5 hl (by decide) rfl (fun ls hl => ?_)
  refine lv_iconst (v := 1) hC.1 hC.2.1 dX0_isWay_7 (by decide) ?_
  refine lv_istore (lv' := [(5, .int 1), (4, .int x1), (3, .int 1), (2, .int 0), (0, .ref (b0 + o)), (1, .int x1)]) hC.1 hC.2.1 dX0_isWay_8 hl (by decide) rfl (fun ls hl => ?_)
  obtain ⟨n1, h⟩ := h
  exact qX0_isWay_10 hC hr hlk n1 _ _ _ _ _ _ H locs ls h hM (lv_sub hl [4, 3, 2, 1, 0] rfl)
set_option maxHeartbeats 4000000 in
set_option maxRecDepth 100000 in
theorem qX0_meetsAllPosts_49 {p : Program} {l : Launch} {e : Env} {s : State} {m : MethodId} {args : Array Value} {below : List Frame} {meth : Method} {c : Code} {G : Gt} {b0 : Nat} (hC : CallFix p m c cX0_meetsAllPosts 5 s args lw_g RX0) (hr : meth.sig.returnType = (some .boolean)) (hlk : meth.locks = false) {K : Int32 → St → Prop} {B7 : Nat → Int32 → Int32 → Int32 → Int32 → St → Prop} (hB7 : ∀ (x0 : Nat) (x1 : Int32) (x2 : Int32) (x3 : Int32) (x4 : Int32) (S : St) (H : Heap) (locs : List Loc) (ls : Array Slot), B7 x0 x1 x2 x3 x4 S → MM G b0 s S H locs → lv_has ls 5 [(0, .ref (b0 + x0)), (1, .int x1), (2, .int x2), (3, .int x3), (4, .int x4)] → W p l e rmX0_meetsAllPosts s m args below meth c H locs 0 0 (MQ below (va_Qi K (ME G b0) (AB b0)) args s 0 0 (AB b0)) (F0 m 7 ls [])) : ∀ (x0 : Nat) (x1 : Int32) (x2 : Int32) (x3 : Int32) (x4 : Int32) (S : St) (H : Heap) (locs : List Loc) (ls : Array Slot), wX0_meetsAllPosts_49 K B7 x0 x1 x2 x3 x4 S → MM G b0 s S H locs → lv_has ls 5 [(0, .ref (b0 + x0)), (1, .int x1), (2, .int x2), (3, .int x3), (4, .int x4)] → W p l e rmX0_meetsAllPosts s m args below meth c H locs 0 0 (MQ below (va_Qi K (ME G b0) (AB b0)) args s 0 0 (AB b0)) (F0 m 49 ls []) := by
  intro x0 x1 x2 x3 x4 S H locs ls h hM hl
  unfold wX0_meetsAllPosts_49 at h
  obtain ⟨x4_1, ex4_1⟩ : ∃ y : Int32, y = x4 + 1 := ⟨_, rfl⟩
  have h := h x4_1 ex4_1
  refine lv_iinc (v := x4_1) (lv' := [(4, .int x4_1), (0, .ref (b0 + x0)), (1, .int x1), (2, .int x2), (3, .int x3)]) hC.1 hC.2.1 dX0_meetsAllPosts_49 hl (k := 4) rfl (by rw [ex4_1]; rfl) (by decide) rfl (fun ls hl => ?_)
  refine lv_goto (tgt := 7) hC.1 hC.2.1 dX0_meetsAllPosts_52 (by decide) ?_
  exact hB7 _ _ _ _ _ _ H locs ls h hM (lv_sub hl [1, 2, 3, 4, 0] rfl)
set_option maxHeartbeats 4000000 in
set_option maxRecDepth 100000 in
theorem qX0_meetsAllPosts_55 {p : Program} {l : Launch} {e : Env} {s : State} {m : MethodId} {args : Array Value} {below : List Frame} {meth : Method} {c : Code} {G : Gt} {b0 : Nat} (hC : CallFix p m c cX0_meetsAllPosts 5 s args lw_g RX0) (hr : meth.sig.returnType = (some .boolean)) (hlk : meth.locks = false) {K : Int32 → St → Prop} : ∀ (x0 : Nat) (x2 : Int32) (x3 : Int32) (S : St) (H : Heap) (locs : List Loc) (ls : Array Slot), wX0_meetsAllPosts_55 K x0 x2 x3 S → MM G b0 s S H locs → lv_has ls 5 [(0, .ref (b0 + x0)), (2, .int x2), (3, .int x3)] → W p l e rmX0_meetsAllPosts s m args below meth c H locs 0 0 (MQ below (va_Qi K (ME G b0) (AB b0)) args s 0 0 (AB b0)) (F0 m 55 ls []) := by
  intro x0 x2 x3 S H locs ls h hM hl
  unfold wX0_meetsAllPosts_55 at h
  refine lv_iconst (v := 1) hC.1 hC.2.1 dX0_meetsAllPosts_55 (by decide) ?_
  refine lv_aload_n hC.1 hC.2.1 dX0_meetsAllPosts_56 rfl (lv_at hl 0 rfl) ?_
  obtain ⟨ok_2, h⟩ := h
  refine mm_gi hC hM (ci := 0) (j := 2) ok_2 rfl (by decide) (by decide) tw_38 rfl dX0_meetsAllPosts_57 ?_
  refine lv_ishl hC.1 hC.2.1 dX0_meetsAllPosts_60 ?_
  refine lv_iconst (v := 1) hC.1 hC.2.1 dX0_meetsAllPosts_61 (by decide) ?_
  refine lv_isub hC.1 hC.2.1 dX0_meetsAllPosts_62 ?_
  refine lv_topi (fun x4_3 ex4_3 => ?_)
  have h := h x4_3 ex4_3
  refine lv_istore (lv' := [(4, .int x4_3), (0, .ref (b0 + x0)), (2, .int x2), (3, .int x3)]) hC.1 hC.2.1 dX0_meetsAllPosts_63 hl (by decide) rfl (fun ls hl => ?_)
  refine lv_iload_n hC.1 hC.2.1 dX0_meetsAllPosts_65 rfl (lv_at hl 2 rfl) ?_
  refine lv_iload hC.1 hC.2.1 dX0_meetsAllPosts_66 (lv_at hl 0 rfl) ?_
  refine lv_icmp_ne (tgt := 81) hC.1 hC.2.1 dX0_meetsAllPosts_68 (by decide) (fun c_4 => ?_) (fun c_4 => ?_)
  · have h := h.2 c_4
    refine lv_iconst (v := 0) hC.1 hC.2.1 dX0_meetsAllPosts_81 (by decide) ?_
    exact mm_zret hC hr hlk hM rfl h dX0_meetsAllPosts_82
  · have h := h.1 c_4
    refine lv_iload_n hC.1 hC.2.1 dX0_meetsAllPosts_71 rfl (lv_at hl 3 rfl) ?_
    refine lv_iload hC.1 hC.2.1 dX0_meetsAllPosts_72 (lv_at hl 0 rfl) ?_
    refine lv_icmp_ne (tgt := 81) hC.1 hC.2.1 dX0_meetsAllPosts_74 (by decide) (fun c_5 => ?_) (fun c_5 => ?_)
    · have h := h.2 c_5
      refine lv_iconst (v := 0) hC.1 hC.2.1 dX0_meetsAllPosts_81 (by decide) ?_
      exact mm_zret hC hr hlk hM rfl h dX0_meetsAllPosts_82
    · have h := h.1 c_5
      refine lv_iconst (v := 1) hC.1 hC.2.1 dX0_meetsAllPosts_77 (by decide) ?_
      refine lv_goto (tgt := 82) hC.1 hC.2.1 dX0_meetsAllPosts_78 (by decide) ?_
      exact mm_zret hC hr hlk hM rfl h dX0_meetsAllPosts_82
set_option maxHeartbeats 4000000 in
set_option maxRecDepth 100000 in
theorem qX0_meetsAllPosts_7 {p : Program} {l : Launch} {e : Env} {s : State} {m : MethodId} {args : Array Value} {below : List Frame} {meth : Method} {c : Code} {G : Gt} {b0 : Nat} (hC : CallFix p m c cX0_meetsAllPosts 5 s args lw_g RX0) (hr : meth.sig.returnType = (some .boolean)) (hlk : meth.locks = false) {K : Int32 → St → Prop} : ∀ (n : Nat) (x0 : Nat) (x1 : Int32) (x2 : Int32) (x3 : Int32) (x4 : Int32) (S : St) (H : Heap) (locs : List Loc) (ls : Array Slot), wX0_meetsAllPosts_7 K n x0 x1 x2 x3 x4 S → MM G b0 s S H locs → lv_has ls 5 [(0, .ref (b0 + x0)), (1, .int x1), (2, .int x2), (3, .int x3), (4, .int x4)] → W p l e rmX0_meetsAllPosts s m args below meth c H locs 0 0 (MQ below (va_Qi K (ME G b0) (AB b0)) args s 0 0 (AB b0)) (F0 m 7 ls []) := by
  intro n
  induction n with
  | zero =>
    intro x0 x1 x2 x3 x4 S H locs ls h
    exact False.elim h
  | succ n ih =>
    intro x0 x1 x2 x3 x4 S H locs ls h hM hl
    rw [wX0_meetsAllPosts_7] at h
    refine lv_iload hC.1 hC.2.1 dX0_meetsAllPosts_7 (lv_at hl 4 rfl) ?_
    refine lv_aload_n hC.1 hC.2.1 dX0_meetsAllPosts_9 rfl (lv_at hl 0 rfl) ?_
    obtain ⟨ok_6, h⟩ := h
    refine mm_gi hC hM (ci := 0) (j := 0) ok_6 rfl (by decide) (by decide) tw_31 rfl dX0_meetsAllPosts_10 ?_
    refine lv_icmp_ge (tgt := 55) hC.1 hC.2.1 dX0_meetsAllPosts_13 (by decide) (fun c_7 => ?_) (fun c_7 => ?_)
    · have h := h.1 c_7
      exact qX0_meetsAllPosts_55 hC hr hlk _ _ _ _ H locs ls h hM (lv_sub hl [0, 2, 3] rfl)
    · have h := h.2 c_7
      refine lv_iload_n hC.1 hC.2.1 dX0_meetsAllPosts_16 rfl (lv_at hl 1 rfl) ?_
      refine lv_iload hC.1 hC.2.1 dX0_meetsAllPosts_17 (lv_at hl 4 rfl) ?_
      refine lv_ishr hC.1 hC.2.1 dX0_meetsAllPosts_19 ?_
      refine lv_iconst (v := 1) hC.1 hC.2.1 dX0_meetsAllPosts_20 (by decide) ?_
      refine lv_iand hC.1 hC.2.1 dX0_meetsAllPosts_21 ?_
      refine lv_if_eq (tgt := 49) hC.1 hC.2.1 dX0_meetsAllPosts_22 (by decide) (fun c_8 => ?_) (fun c_8 => ?_)
      · have h := h.1 c_8
        exact qX0_meetsAllPosts_49 hC hr hlk ih _ _ _ _ _ _ H locs ls h hM (lv_sub hl [0, 1, 2, 3, 4] rfl)
      · have h := h.2 c_8
        refine lv_iload_n hC.1 hC.2.1 dX0_meetsAllPosts_25 rfl (lv_at hl 2 rfl) ?_
        refine lv_iconst (v := 1) hC.1 hC.2.1 dX0_meetsAllPosts_26 (by decide) ?_
        refine lv_aload_n hC.1 hC.2.1 dX0_meetsAllPosts_27 rfl (lv_at hl 0 rfl) ?_
        obtain ⟨ok_9, h⟩ := h
        refine mm_gr hC hM (ci := 0) (j := 6) ⟨ok_6, ok_9⟩ rfl (by decide) (by decide) tw_48 rfl dX0_meetsAllPosts_28 ?_
        refine lv_iload hC.1 hC.2.1 dX0_meetsAllPosts_31 (lv_at hl 4 rfl) ?_
        obtain ⟨ok_10, h⟩ := h
        refine mm_il hC hM ok_10 dX0_meetsAllPosts_33 ?_
        refine lv_ishl hC.1 hC.2.1 dX0_meetsAllPosts_34 ?_
        refine lv_ior hC.1 hC.2.1 dX0_meetsAllPosts_35 ?_
        refine lv_topi (fun x2_11 ex2_11 => ?_)
        have h := h x2_11 ex2_11
        refine lv_istore_n (lv' := [(2, .int x2_11), (0, .ref (b0 + x0)), (1, .int x1), (3, .int x3), (4, .int x4)]) hC.1 hC.2.1 dX0_meetsAllPosts_36 rfl hl (by decide) rfl (fun ls hl => ?_)
        refine lv_iload_n hC.1 hC.2.1 dX0_meetsAllPosts_37 rfl (lv_at hl 3 rfl) ?_
        refine lv_iconst (v := 1) hC.1 hC.2.1 dX0_meetsAllPosts_38 (by decide) ?_
        refine lv_aload_n hC.1 hC.2.1 dX0_meetsAllPosts_39 rfl (lv_at hl 1 rfl) ?_
        obtain ⟨ok_12, h⟩ := h
        refine mm_gr hC hM (ci := 0) (j := 7) ⟨ok_6, ok_12⟩ rfl (by decide) (by decide) tw_50 rfl dX0_meetsAllPosts_40 ?_
        refine lv_iload hC.1 hC.2.1 dX0_meetsAllPosts_43 (lv_at hl 4 rfl) ?_
        obtain ⟨ok_13, h⟩ := h
        refine mm_il hC hM ok_13 dX0_meetsAllPosts_45 ?_
        refine lv_ishl hC.1 hC.2.1 dX0_meetsAllPosts_46 ?_
        refine lv_ior hC.1 hC.2.1 dX0_meetsAllPosts_47 ?_
        refine lv_topi (fun x3_14 ex3_14 => ?_)
        have h := h x3_14 ex3_14
        refine lv_istore_n (lv' := [(3, .int x3_14), (2, .int x2_11), (0, .ref (b0 + x0)), (1, .int x1), (4, .int x4)]) hC.1 hC.2.1 dX0_meetsAllPosts_48 rfl hl (by decide) rfl (fun ls hl => ?_)
        exact qX0_meetsAllPosts_49 hC hr hlk ih _ _ _ _ _ _ H locs ls h hM (lv_sub hl [2, 3, 1, 0, 4] rfl)
set_option maxHeartbeats 4000000 in
set_option maxRecDepth 100000 in
theorem mX0_meetsAllPosts (l : Launch) (G : Gt) (b0 : Nat) (S : St) (o : Nat) (x1 : Int32) (K : Int32 → St → Prop) : CI l G b0 S yX0_meetsAllPosts cX0_meetsAllPosts 5 (some .boolean) rmX0_meetsAllPosts [.ref (b0 + o), .int x1] (wX0_meetsAllPosts S o x1 K) K := by
  refine met_of (by decide) (Nat.le_of_ble_eq_true rfl) rfl ?_
  intro p e s m below meth c hC hr hlk hin h H locs ls hM hl
  unfold wX0_meetsAllPosts at h
  refine lv_iconst (v := 0) hC.1 hC.2.1 dX0_meetsAllPosts_0 (by decide) ?_
  refine lv_istore_n (lv' := [(2, .int 0), (0, .ref (b0 + o)), (1, .int x1)]) hC.1 hC.2.1 dX0_meetsAllPosts_1 rfl hl (by decide) rfl (fun ls hl => ?_)
  refine lv_iconst (v := 0) hC.1 hC.2.1 dX0_meetsAllPosts_2 (by decide) ?_
  refine lv_istore_n (lv' := [(3, .int 0), (2, .int 0), (0, .ref (b0 + o)), (1, .int x1)]) hC.1 hC.2.1 dX0_meetsAllPosts_3 rfl hl (by decide) rfl (fun ls hl => ?_)
  refine lv_iconst (v := 0) hC.1 hC.2.1 dX0_meetsAllPosts_4 (by decide) ?_
  refine lv_istore (lv' := [(4, .int 0), (3, .int 0), (2, .int 0), (0, .ref (b0 + o)), (1, .int x1)]) hC.1 hC.2.1 dX0_meetsAllPosts_5 hl (by decide) rfl (fun ls hl => ?_)
  obtain ⟨n1, h⟩ := h
  exact qX0_meetsAllPosts_7 hC hr hlk n1 _ _ _ _ _ _ H locs ls h hM (lv_sub hl [3, 4, 2, 1, 0] rfl)
set_option maxHeartbeats 4000000 in
set_option maxRecDepth 100000 in
theorem mX0_allows (l : Launch) (G : Gt) (b0 : Nat) (S : St) (o : Nat) (x1 : Int32) (K : Int32 → St → Prop) : CI l G b0 S yX0_allows cX0_allows 2 (some .boolean) rmX0_allows [.ref (b0 + o), .int x1] (wX0_allows S o x1 K) K := by
  refine met_of (by decide) (Nat.le_of_ble_eq_true rfl) rfl ?_
  intro p e s m below meth c hC hr hlk hin h H locs ls hM hl
  unfold wX0_allows at h
  refine lv_aload_n hC.1 hC.2.1 dX0_allows_0 rfl (lv_at hl 0 rfl) ?_
  obtain ⟨ok_1, h⟩ := h
  refine mm_gi hC hM (ci := 0) (j := 1) ok_1 rfl (by decide) (by decide) tw_36 rfl dX0_allows_1 ?_
  refine mm_sw (lo := 1) (hi := 3) hC.1 hC.2.1 dX0_allows_4 (by decide) (fun c_2 => ?_) ?_
  · have h := h.1 c_2
    refine ⟨107, by decide, ?_⟩
    refine lv_iload_n hC.1 hC.2.1 dX0_allows_107 rfl (lv_at hl 1 rfl) ?_
    refine mm_ri hM (mm_S (As := [.int x1]) (rest := []) hC hM hl.1 (mJ6_bitCount_0f7a4 l G b0 S x1 _) h kJ6_bitCount_0f7a4 tw_116 rfl (by decide) rfl (Nat.le_of_ble_eq_true rfl) dX0_allows_108 (by decide)) (fun r_25 S_24 H locs h hM => ?_)
    refine lv_aload_n hC.1 hC.2.1 dX0_allows_111 rfl (lv_at hl 0 rfl) ?_
    obtain ⟨ok_26, h⟩ := h
    refine mm_gi hC hM (ci := 0) (j := 2) ok_26 rfl (by decide) (by decide) tw_38 rfl dX0_allows_112 ?_
    refine lv_icmp_ne (tgt := 122) hC.1 hC.2.1 dX0_allows_115 (by decide) (fun c_27 => ?_) (fun c_27 => ?_)
    · have h := h.2 c_27
      refine lv_iconst (v := 0) hC.1 hC.2.1 dX0_allows_122 (by decide) ?_
      exact mm_zret hC hr hlk hM rfl h dX0_allows_123
    · have h := h.1 c_27
      refine lv_iconst (v := 1) hC.1 hC.2.1 dX0_allows_118 (by decide) ?_
      refine lv_goto (tgt := 123) hC.1 hC.2.1 dX0_allows_119 (by decide) ?_
      exact mm_zret hC hr hlk hM rfl h dX0_allows_123
  · intro i hi
    match i, hi with
    | 0, _ =>
      intro c_2
      have h := h.2.1 (c_2.trans (by decide))
      refine ⟨32, by decide, ?_⟩
      refine lv_iload_n hC.1 hC.2.1 dX0_allows_32 rfl (lv_at hl 1 rfl) ?_
      refine mm_ri hM (mm_S (As := [.int x1]) (rest := []) hC hM hl.1 (mJ6_bitCount_0f7a4 l G b0 S x1 _) h kJ6_bitCount_0f7a4 tw_116 rfl (by decide) rfl (Nat.le_of_ble_eq_true rfl) dX0_allows_33 (by decide)) (fun r_4 S_3 H locs h hM => ?_)
      refine lv_bipush (v := 6) hC.1 hC.2.1 dX0_allows_36 (by decide) ?_
      refine lv_icmp_ge (tgt := 53) hC.1 hC.2.1 dX0_allows_38 (by decide) (fun c_5 => ?_) (fun c_5 => ?_)
      · have h := h.1 c_5
        refine lv_iconst (v := 0) hC.1 hC.2.1 dX0_allows_53 (by decide) ?_
        exact mm_zret hC hr hlk hM rfl h dX0_allows_54
      · have h := h.2 c_5
        refine lv_aload_n hC.1 hC.2.1 dX0_allows_41 rfl (lv_at hl 0 rfl) ?_
        refine lv_iload_n hC.1 hC.2.1 dX0_allows_42 rfl (lv_at hl 1 rfl) ?_
        obtain ⟨ok_8, h⟩ := h
        refine mm_ri hM (mm_V (As := [.int x1]) (rest := []) hC hM hl.1 (mX0_isWay l G b0 S_3 o x1 _) h (ci := 0) ok_8 rfl rfl kX0_isWay tw_122 rfl (by decide) rfl (Nat.le_of_ble_eq_true rfl) dX0_allows_43 (by decide)) (fun r_7 S_6 H locs h hM => ?_)
        refine lv_if_eq (tgt := 53) hC.1 hC.2.1 dX0_allows_46 (by decide) (fun c_9 => ?_) (fun c_9 => ?_)
        · have h := h.1 c_9
          refine lv_iconst (v := 0) hC.1 hC.2.1 dX0_allows_53 (by decide) ?_
          exact mm_zret hC hr hlk hM rfl h dX0_allows_54
        · have h := h.2 c_9
          refine lv_iconst (v := 1) hC.1 hC.2.1 dX0_allows_49 (by decide) ?_
          refine lv_goto (tgt := 54) hC.1 hC.2.1 dX0_allows_50 (by decide) ?_
          exact mm_zret hC hr hlk hM rfl h dX0_allows_54
    | 1, _ =>
      intro c_2
      have h := h.2.2.1 (c_2.trans (by decide))
      refine ⟨55, by decide, ?_⟩
      refine lv_iload_n hC.1 hC.2.1 dX0_allows_55 rfl (lv_at hl 1 rfl) ?_
      refine mm_ri hM (mm_S (As := [.int x1]) (rest := []) hC hM hl.1 (mJ6_bitCount_0f7a4 l G b0 S x1 _) h kJ6_bitCount_0f7a4 tw_116 rfl (by decide) rfl (Nat.le_of_ble_eq_true rfl) dX0_allows_56 (by decide)) (fun r_11 S_10 H locs h hM => ?_)
      refine lv_aload_n hC.1 hC.2.1 dX0_allows_59 rfl (lv_at hl 0 rfl) ?_
      obtain ⟨ok_12, h⟩ := h
      refine mm_gi hC hM (ci := 0) (j := 2) ok_12 rfl (by decide) (by decide) tw_38 rfl dX0_allows_60 ?_
      refine lv_iconst (v := 1) hC.1 hC.2.1 dX0_allows_63 (by decide) ?_
      refine lv_isub hC.1 hC.2.1 dX0_allows_64 ?_
      refine lv_icmp_ne (tgt := 80) hC.1 hC.2.1 dX0_allows_65 (by decide) (fun c_13 => ?_) (fun c_13 => ?_)
      · have h := h.2 c_13
        refine lv_iconst (v := 0) hC.1 hC.2.1 dX0_allows_80 (by decide) ?_
        exact mm_zret hC hr hlk hM rfl h dX0_allows_81
      · have h := h.1 c_13
        refine lv_aload_n hC.1 hC.2.1 dX0_allows_68 rfl (lv_at hl 0 rfl) ?_
        refine lv_iload_n hC.1 hC.2.1 dX0_allows_69 rfl (lv_at hl 1 rfl) ?_
        refine mm_ri hM (mm_V (As := [.int x1]) (rest := []) hC hM hl.1 (mX0_holdsTogether l G b0 S_10 o x1 _) h (ci := 0) ok_12 rfl rfl kX0_holdsTogether tw_130 rfl (by decide) rfl (Nat.le_of_ble_eq_true rfl) dX0_allows_70 (by decide)) (fun r_15 S_14 H locs h hM => ?_)
        refine lv_if_eq (tgt := 80) hC.1 hC.2.1 dX0_allows_73 (by decide) (fun c_16 => ?_) (fun c_16 => ?_)
        · have h := h.1 c_16
          refine lv_iconst (v := 0) hC.1 hC.2.1 dX0_allows_80 (by decide) ?_
          exact mm_zret hC hr hlk hM rfl h dX0_allows_81
        · have h := h.2 c_16
          refine lv_iconst (v := 1) hC.1 hC.2.1 dX0_allows_76 (by decide) ?_
          refine lv_goto (tgt := 81) hC.1 hC.2.1 dX0_allows_77 (by decide) ?_
          exact mm_zret hC hr hlk hM rfl h dX0_allows_81
    | 2, _ =>
      intro c_2
      have h := h.2.2.2 (c_2.trans (by decide))
      refine ⟨82, by decide, ?_⟩
      refine lv_iload_n hC.1 hC.2.1 dX0_allows_82 rfl (lv_at hl 1 rfl) ?_
      refine mm_ri hM (mm_S (As := [.int x1]) (rest := []) hC hM hl.1 (mJ6_bitCount_0f7a4 l G b0 S x1 _) h kJ6_bitCount_0f7a4 tw_116 rfl (by decide) rfl (Nat.le_of_ble_eq_true rfl) dX0_allows_83 (by decide)) (fun r_18 S_17 H locs h hM => ?_)
      refine lv_aload_n hC.1 hC.2.1 dX0_allows_86 rfl (lv_at hl 0 rfl) ?_
      obtain ⟨ok_19, h⟩ := h
      refine mm_gi hC hM (ci := 0) (j := 2) ok_19 rfl (by decide) (by decide) tw_38 rfl dX0_allows_87 ?_
      refine lv_icmp_ne (tgt := 105) hC.1 hC.2.1 dX0_allows_90 (by decide) (fun c_20 => ?_) (fun c_20 => ?_)
      · have h := h.2 c_20
        refine lv_iconst (v := 0) hC.1 hC.2.1 dX0_allows_105 (by decide) ?_
        exact mm_zret hC hr hlk hM rfl h dX0_allows_106
      · have h := h.1 c_20
        refine lv_aload_n hC.1 hC.2.1 dX0_allows_93 rfl (lv_at hl 0 rfl) ?_
        refine lv_iload_n hC.1 hC.2.1 dX0_allows_94 rfl (lv_at hl 1 rfl) ?_
        refine mm_ri hM (mm_V (As := [.int x1]) (rest := []) hC hM hl.1 (mX0_meetsAllPosts l G b0 S_17 o x1 _) h (ci := 0) ok_19 rfl rfl kX0_meetsAllPosts tw_134 rfl (by decide) rfl (Nat.le_of_ble_eq_true rfl) dX0_allows_95 (by decide)) (fun r_22 S_21 H locs h hM => ?_)
        refine lv_if_eq (tgt := 105) hC.1 hC.2.1 dX0_allows_98 (by decide) (fun c_23 => ?_) (fun c_23 => ?_)
        · have h := h.1 c_23
          refine lv_iconst (v := 0) hC.1 hC.2.1 dX0_allows_105 (by decide) ?_
          exact mm_zret hC hr hlk hM rfl h dX0_allows_106
        · have h := h.2 c_23
          refine lv_iconst (v := 1) hC.1 hC.2.1 dX0_allows_101 (by decide) ?_
          refine lv_goto (tgt := 106) hC.1 hC.2.1 dX0_allows_102 (by decide) ?_
          exact mm_zret hC hr hlk hM rfl h dX0_allows_106
    | q + 3, hi => exact absurd hi (by simp)
set_option maxHeartbeats 4000000 in
set_option maxRecDepth 100000 in
theorem qX0_copyFrom_109 {p : Program} {l : Launch} {e : Env} {s : State} {m : MethodId} {args : Array Value} {below : List Frame} {meth : Method} {c : Code} {G : Gt} {b0 : Nat} (hC : CallFix p m c cX0_copyFrom 3 s args lw_g RX0) (hr : meth.sig.returnType = none) (hlk : meth.locks = false) {K : St → Prop} : ∀ (n : Nat) (x0 : Nat) (x1 : Nat) (x2 : Int32) (S : St) (H : Heap) (locs : List Loc) (ls : Array Slot), wX0_copyFrom_109 K n x0 x1 x2 S → MM G b0 s S H locs → lv_has ls 3 [(0, .ref (b0 + x0)), (1, .ref (b0 + x1)), (2, .int x2)] → W p l e rmX0_copyFrom s m args below meth c H locs 0 0 (MQ below (va_Qv K (ME G b0) (AB b0)) args s 0 0 (AB b0)) (F0 m 109 ls []) := by
  intro n
  induction n with
  | zero =>
    intro x0 x1 x2 S H locs ls h
    exact False.elim h
  | succ n ih =>
    intro x0 x1 x2 S H locs ls h hM hl
    rw [wX0_copyFrom_109] at h
    refine lv_iload_n hC.1 hC.2.1 dX0_copyFrom_109 rfl (lv_at hl 2 rfl) ?_
    refine lv_bipush (v := 8) hC.1 hC.2.1 dX0_copyFrom_110 (by decide) ?_
    refine lv_icmp_ge (tgt := 140) hC.1 hC.2.1 dX0_copyFrom_112 (by decide) (fun c_1 => ?_) (fun c_1 => ?_)
    · have h := h.1 c_1
      exact mm_vret hC hr hlk hM h dX0_copyFrom_140
    · have h := h.2 c_1
      refine lv_aload_n hC.1 hC.2.1 dX0_copyFrom_115 rfl (lv_at hl 1 rfl) ?_
      obtain ⟨ok_2, h⟩ := h
      refine mm_gr hC hM (ci := 0) (j := 9) ok_2 rfl (by decide) (by decide) tw_55 rfl dX0_copyFrom_116 ?_
      refine lv_iload_n hC.1 hC.2.1 dX0_copyFrom_119 rfl (lv_at hl 2 rfl) ?_
      obtain ⟨ok_3, h⟩ := h
      refine mm_al hC hM (t0 := 4) ok_3 (by decide) rfl rfl dX0_copyFrom_120 ?_
      refine lv_iconst (v := 0) hC.1 hC.2.1 dX0_copyFrom_121 (by decide) ?_
      refine lv_aload_n hC.1 hC.2.1 dX0_copyFrom_122 rfl (lv_at hl 0 rfl) ?_
      obtain ⟨ok_4, h⟩ := h
      refine mm_gr hC hM (ci := 0) (j := 9) ok_4 rfl (by decide) (by decide) tw_55 rfl dX0_copyFrom_123 ?_
      refine lv_iload_n hC.1 hC.2.1 dX0_copyFrom_126 rfl (lv_at hl 2 rfl) ?_
      obtain ⟨ok_5, h⟩ := h
      refine mm_al hC hM (t0 := 4) ok_5 (by decide) rfl rfl dX0_copyFrom_127 ?_
      refine lv_iconst (v := 0) hC.1 hC.2.1 dX0_copyFrom_128 (by decide) ?_
      refine lv_bipush (v := 12) hC.1 hC.2.1 dX0_copyFrom_129 (by decide) ?_
      obtain ⟨ok_6, h⟩ := h
      refine mm_cp hC hM hl.1 ok_6 tw_744 tw_746 tw_745 tw_14 (rest := []) (by decide) (Nat.le_of_ble_eq_true rfl) dX0_copyFrom_131 (fun S_7 H locs eS_7 hM => ?_)
      have h := h S_7 eS_7
      obtain ⟨x2_8, ex2_8⟩ : ∃ y : Int32, y = x2 + 1 := ⟨_, rfl⟩
      have h := h x2_8 ex2_8
      refine lv_iinc (v := x2_8) (lv' := [(2, .int x2_8), (0, .ref (b0 + x0)), (1, .ref (b0 + x1))]) hC.1 hC.2.1 dX0_copyFrom_134 hl (k := 2) rfl (by rw [ex2_8]; rfl) (by decide) rfl (fun ls hl => ?_)
      refine lv_goto (tgt := 109) hC.1 hC.2.1 dX0_copyFrom_137 (by decide) ?_
      exact ih _ _ _ _ H locs ls h hM (lv_sub hl [1, 2, 0] rfl)
set_option maxHeartbeats 4000000 in
set_option maxRecDepth 100000 in
theorem mX0_copyFrom (l : Launch) (G : Gt) (b0 : Nat) (S : St) (o : Nat) (x1 : Nat) (K : St → Prop) : CV l G b0 S yX0_copyFrom cX0_copyFrom 3 none rmX0_copyFrom [.ref (b0 + o), .ref (b0 + x1)] (wX0_copyFrom S o x1 K) K := by
  refine met_of (by decide) (Nat.le_of_ble_eq_true rfl) rfl ?_
  intro p e s m below meth c hC hr hlk hin h H locs ls hM hl
  unfold wX0_copyFrom at h
  refine lv_aload_n hC.1 hC.2.1 dX0_copyFrom_0 rfl (lv_at hl 0 rfl) ?_
  refine lv_aload_n hC.1 hC.2.1 dX0_copyFrom_1 rfl (lv_at hl 1 rfl) ?_
  obtain ⟨ok_9, h⟩ := h
  refine mm_gi hC hM (ci := 0) (j := 0) ok_9 rfl (by decide) (by decide) tw_31 rfl dX0_copyFrom_2 ?_
  obtain ⟨ok_10, h⟩ := h
  refine mm_pi hC hM (ci := 0) (j := 0) (ty := .int) ok_10 rfl (by decide) (by decide) tw_31 rfl rfl (by decide +kernel) rfl rfl dX0_copyFrom_5 (fun S_11 H locs eS_11 hM => ?_)
  have h := h S_11 eS_11
  refine lv_aload_n hC.1 hC.2.1 dX0_copyFrom_8 rfl (lv_at hl 0 rfl) ?_
  refine lv_aload_n hC.1 hC.2.1 dX0_copyFrom_9 rfl (lv_at hl 1 rfl) ?_
  obtain ⟨ok_12, h⟩ := h
  refine mm_gi hC hM (ci := 0) (j := 1) ok_12 rfl (by decide) (by decide) tw_36 rfl dX0_copyFrom_10 ?_
  obtain ⟨ok_13, h⟩ := h
  refine mm_pi hC hM (ci := 0) (j := 1) (ty := .int) ok_13 rfl (by decide) (by decide) tw_36 rfl rfl (by decide +kernel) rfl rfl dX0_copyFrom_13 (fun S_14 H locs eS_14 hM => ?_)
  have h := h S_14 eS_14
  refine lv_aload_n hC.1 hC.2.1 dX0_copyFrom_16 rfl (lv_at hl 0 rfl) ?_
  refine lv_aload_n hC.1 hC.2.1 dX0_copyFrom_17 rfl (lv_at hl 1 rfl) ?_
  obtain ⟨ok_15, h⟩ := h
  refine mm_gi hC hM (ci := 0) (j := 2) ok_15 rfl (by decide) (by decide) tw_38 rfl dX0_copyFrom_18 ?_
  obtain ⟨ok_16, h⟩ := h
  refine mm_pi hC hM (ci := 0) (j := 2) (ty := .int) ok_16 rfl (by decide) (by decide) tw_38 rfl rfl (by decide +kernel) rfl rfl dX0_copyFrom_21 (fun S_17 H locs eS_17 hM => ?_)
  have h := h S_17 eS_17
  refine lv_aload_n hC.1 hC.2.1 dX0_copyFrom_24 rfl (lv_at hl 0 rfl) ?_
  refine lv_aload_n hC.1 hC.2.1 dX0_copyFrom_25 rfl (lv_at hl 1 rfl) ?_
  obtain ⟨ok_18, h⟩ := h
  refine mm_gi hC hM (ci := 0) (j := 3) ok_18 rfl (by decide) (by decide) tw_40 rfl dX0_copyFrom_26 ?_
  obtain ⟨ok_19, h⟩ := h
  refine mm_pi hC hM (ci := 0) (j := 3) (ty := .int) ok_19 rfl (by decide) (by decide) tw_40 rfl rfl (by decide +kernel) rfl rfl dX0_copyFrom_29 (fun S_20 H locs eS_20 hM => ?_)
  have h := h S_20 eS_20
  refine lv_aload_n hC.1 hC.2.1 dX0_copyFrom_32 rfl (lv_at hl 1 rfl) ?_
  obtain ⟨ok_21, h⟩ := h
  refine mm_gr hC hM (ci := 0) (j := 4) ok_21 rfl (by decide) (by decide) tw_42 rfl dX0_copyFrom_33 ?_
  refine lv_iconst (v := 0) hC.1 hC.2.1 dX0_copyFrom_36 (by decide) ?_
  refine lv_aload_n hC.1 hC.2.1 dX0_copyFrom_37 rfl (lv_at hl 0 rfl) ?_
  obtain ⟨ok_22, h⟩ := h
  refine mm_gr hC hM (ci := 0) (j := 4) ok_22 rfl (by decide) (by decide) tw_42 rfl dX0_copyFrom_38 ?_
  refine lv_iconst (v := 0) hC.1 hC.2.1 dX0_copyFrom_41 (by decide) ?_
  refine lv_bipush (v := 12) hC.1 hC.2.1 dX0_copyFrom_42 (by decide) ?_
  obtain ⟨ok_23, h⟩ := h
  refine mm_cp hC hM hl.1 ok_23 tw_744 tw_746 tw_745 tw_14 (rest := []) (by decide) (Nat.le_of_ble_eq_true rfl) dX0_copyFrom_44 (fun S_24 H locs eS_24 hM => ?_)
  have h := h S_24 eS_24
  refine lv_aload_n hC.1 hC.2.1 dX0_copyFrom_47 rfl (lv_at hl 1 rfl) ?_
  obtain ⟨ok_25, h⟩ := h
  refine mm_gr hC hM (ci := 0) (j := 5) ok_25 rfl (by decide) (by decide) tw_45 rfl dX0_copyFrom_48 ?_
  refine lv_iconst (v := 0) hC.1 hC.2.1 dX0_copyFrom_51 (by decide) ?_
  refine lv_aload_n hC.1 hC.2.1 dX0_copyFrom_52 rfl (lv_at hl 0 rfl) ?_
  obtain ⟨ok_26, h⟩ := h
  refine mm_gr hC hM (ci := 0) (j := 5) ok_26 rfl (by decide) (by decide) tw_45 rfl dX0_copyFrom_53 ?_
  refine lv_iconst (v := 0) hC.1 hC.2.1 dX0_copyFrom_56 (by decide) ?_
  refine lv_bipush (v := 12) hC.1 hC.2.1 dX0_copyFrom_57 (by decide) ?_
  obtain ⟨ok_27, h⟩ := h
  refine mm_cp hC hM hl.1 ok_27 tw_744 tw_746 tw_745 tw_14 (rest := []) (by decide) (Nat.le_of_ble_eq_true rfl) dX0_copyFrom_59 (fun S_28 H locs eS_28 hM => ?_)
  have h := h S_28 eS_28
  refine lv_aload_n hC.1 hC.2.1 dX0_copyFrom_62 rfl (lv_at hl 1 rfl) ?_
  obtain ⟨ok_29, h⟩ := h
  refine mm_gr hC hM (ci := 0) (j := 6) ok_29 rfl (by decide) (by decide) tw_48 rfl dX0_copyFrom_63 ?_
  refine lv_iconst (v := 0) hC.1 hC.2.1 dX0_copyFrom_66 (by decide) ?_
  refine lv_aload_n hC.1 hC.2.1 dX0_copyFrom_67 rfl (lv_at hl 0 rfl) ?_
  obtain ⟨ok_30, h⟩ := h
  refine mm_gr hC hM (ci := 0) (j := 6) ok_30 rfl (by decide) (by decide) tw_48 rfl dX0_copyFrom_68 ?_
  refine lv_iconst (v := 0) hC.1 hC.2.1 dX0_copyFrom_71 (by decide) ?_
  refine lv_bipush (v := 12) hC.1 hC.2.1 dX0_copyFrom_72 (by decide) ?_
  obtain ⟨ok_31, h⟩ := h
  refine mm_cp hC hM hl.1 ok_31 tw_744 tw_746 tw_745 tw_14 (rest := []) (by decide) (Nat.le_of_ble_eq_true rfl) dX0_copyFrom_74 (fun S_32 H locs eS_32 hM => ?_)
  have h := h S_32 eS_32
  refine lv_aload_n hC.1 hC.2.1 dX0_copyFrom_77 rfl (lv_at hl 1 rfl) ?_
  obtain ⟨ok_33, h⟩ := h
  refine mm_gr hC hM (ci := 0) (j := 7) ok_33 rfl (by decide) (by decide) tw_50 rfl dX0_copyFrom_78 ?_
  refine lv_iconst (v := 0) hC.1 hC.2.1 dX0_copyFrom_81 (by decide) ?_
  refine lv_aload_n hC.1 hC.2.1 dX0_copyFrom_82 rfl (lv_at hl 0 rfl) ?_
  obtain ⟨ok_34, h⟩ := h
  refine mm_gr hC hM (ci := 0) (j := 7) ok_34 rfl (by decide) (by decide) tw_50 rfl dX0_copyFrom_83 ?_
  refine lv_iconst (v := 0) hC.1 hC.2.1 dX0_copyFrom_86 (by decide) ?_
  refine lv_bipush (v := 12) hC.1 hC.2.1 dX0_copyFrom_87 (by decide) ?_
  obtain ⟨ok_35, h⟩ := h
  refine mm_cp hC hM hl.1 ok_35 tw_744 tw_746 tw_745 tw_14 (rest := []) (by decide) (Nat.le_of_ble_eq_true rfl) dX0_copyFrom_89 (fun S_36 H locs eS_36 hM => ?_)
  have h := h S_36 eS_36
  refine lv_aload_n hC.1 hC.2.1 dX0_copyFrom_92 rfl (lv_at hl 1 rfl) ?_
  obtain ⟨ok_37, h⟩ := h
  refine mm_gr hC hM (ci := 0) (j := 8) ok_37 rfl (by decide) (by decide) tw_52 rfl dX0_copyFrom_93 ?_
  refine lv_iconst (v := 0) hC.1 hC.2.1 dX0_copyFrom_96 (by decide) ?_
  refine lv_aload_n hC.1 hC.2.1 dX0_copyFrom_97 rfl (lv_at hl 0 rfl) ?_
  obtain ⟨ok_38, h⟩ := h
  refine mm_gr hC hM (ci := 0) (j := 8) ok_38 rfl (by decide) (by decide) tw_52 rfl dX0_copyFrom_98 ?_
  refine lv_iconst (v := 0) hC.1 hC.2.1 dX0_copyFrom_101 (by decide) ?_
  refine lv_bipush (v := 12) hC.1 hC.2.1 dX0_copyFrom_102 (by decide) ?_
  obtain ⟨ok_39, h⟩ := h
  refine mm_cp hC hM hl.1 ok_39 tw_744 tw_746 tw_745 tw_14 (rest := []) (by decide) (Nat.le_of_ble_eq_true rfl) dX0_copyFrom_104 (fun S_40 H locs eS_40 hM => ?_)
  have h := h S_40 eS_40
  refine lv_iconst (v := 0) hC.1 hC.2.1 dX0_copyFrom_107 (by decide) ?_
  refine lv_istore_n (lv' := [(2, .int 0), (0, .ref (b0 + o)), (1, .ref (b0 + x1))]) hC.1 hC.2.1 dX0_copyFrom_108 rfl hl (by decide) rfl (fun ls hl => ?_)
  obtain ⟨n1, h⟩ := h
  exact qX0_copyFrom_109 hC hr hlk n1 _ _ _ _ H locs ls h hM (lv_sub hl [1, 2, 0] rfl)
set_option maxHeartbeats 4000000 in
set_option maxRecDepth 100000 in
theorem qX0_costInWorld_35 {p : Program} {l : Launch} {e : Env} {s : State} {m : MethodId} {args : Array Value} {below : List Frame} {meth : Method} {c : Code} {G : Gt} {b0 : Nat} (hC : CallFix p m c cX0_costInWorld 5 s args lw_g RX0) (hr : meth.sig.returnType = (some .int)) (hlk : meth.locks = false) {K : Int32 → St → Prop} {B5 : Nat → Int32 → Int32 → Int32 → Int32 → St → Prop} (hB5 : ∀ (x0 : Nat) (x1 : Int32) (x2 : Int32) (x3 : Int32) (x4 : Int32) (S : St) (H : Heap) (locs : List Loc) (ls : Array Slot), B5 x0 x1 x2 x3 x4 S → MM G b0 s S H locs → lv_has ls 5 [(0, .ref (b0 + x0)), (1, .int x1), (2, .int x2), (3, .int x3), (4, .int x4)] → W p l e rmX0_costInWorld s m args below meth c H locs 0 0 (MQ below (va_Qi K (ME G b0) (AB b0)) args s 0 0 (AB b0)) (F0 m 5 ls [])) : ∀ (x0 : Nat) (x1 : Int32) (x2 : Int32) (x3 : Int32) (x4 : Int32) (S : St) (H : Heap) (locs : List Loc) (ls : Array Slot), wX0_costInWorld_35 K B5 x0 x1 x2 x3 x4 S → MM G b0 s S H locs → lv_has ls 5 [(0, .ref (b0 + x0)), (1, .int x1), (2, .int x2), (3, .int x3), (4, .int x4)] → W p l e rmX0_costInWorld s m args below meth c H locs 0 0 (MQ below (va_Qi K (ME G b0) (AB b0)) args s 0 0 (AB b0)) (F0 m 35 ls []) := by
  intro x0 x1 x2 x3 x4 S H locs ls h hM hl
  unfold wX0_costInWorld_35 at h
  obtain ⟨x4_1, ex4_1⟩ : ∃ y : Int32, y = x4 + 1 := ⟨_, rfl⟩
  have h := h x4_1 ex4_1
  refine lv_iinc (v := x4_1) (lv' := [(4, .int x4_1), (0, .ref (b0 + x0)), (1, .int x1), (2, .int x2), (3, .int x3)]) hC.1 hC.2.1 dX0_costInWorld_35 hl (k := 4) rfl (by rw [ex4_1]; rfl) (by decide) rfl (fun ls hl => ?_)
  refine lv_goto (tgt := 5) hC.1 hC.2.1 dX0_costInWorld_38 (by decide) ?_
  exact hB5 _ _ _ _ _ _ H locs ls h hM (lv_sub hl [1, 2, 3, 4, 0] rfl)
set_option maxHeartbeats 4000000 in
set_option maxRecDepth 100000 in
theorem qX0_costInWorld_5 {p : Program} {l : Launch} {e : Env} {s : State} {m : MethodId} {args : Array Value} {below : List Frame} {meth : Method} {c : Code} {G : Gt} {b0 : Nat} (hC : CallFix p m c cX0_costInWorld 5 s args lw_g RX0) (hr : meth.sig.returnType = (some .int)) (hlk : meth.locks = false) {K : Int32 → St → Prop} : ∀ (n : Nat) (x0 : Nat) (x1 : Int32) (x2 : Int32) (x3 : Int32) (x4 : Int32) (S : St) (H : Heap) (locs : List Loc) (ls : Array Slot), wX0_costInWorld_5 K n x0 x1 x2 x3 x4 S → MM G b0 s S H locs → lv_has ls 5 [(0, .ref (b0 + x0)), (1, .int x1), (2, .int x2), (3, .int x3), (4, .int x4)] → W p l e rmX0_costInWorld s m args below meth c H locs 0 0 (MQ below (va_Qi K (ME G b0) (AB b0)) args s 0 0 (AB b0)) (F0 m 5 ls []) := by
  intro n
  induction n with
  | zero =>
    intro x0 x1 x2 x3 x4 S H locs ls h
    exact False.elim h
  | succ n ih =>
    intro x0 x1 x2 x3 x4 S H locs ls h hM hl
    rw [wX0_costInWorld_5] at h
    refine lv_iload hC.1 hC.2.1 dX0_costInWorld_5 (lv_at hl 4 rfl) ?_
    refine lv_aload_n hC.1 hC.2.1 dX0_costInWorld_7 rfl (lv_at hl 0 rfl) ?_
    obtain ⟨ok_2, h⟩ := h
    refine mm_gi hC hM (ci := 0) (j := 0) ok_2 rfl (by decide) (by decide) tw_31 rfl dX0_costInWorld_8 ?_
    refine lv_icmp_ge (tgt := 41) hC.1 hC.2.1 dX0_costInWorld_11 (by decide) (fun c_3 => ?_) (fun c_3 => ?_)
    · have h := h.1 c_3
      refine lv_iload_n hC.1 hC.2.1 dX0_costInWorld_41 rfl (lv_at hl 3 rfl) ?_
      exact mm_iret hC hr hlk hM h dX0_costInWorld_42
    · have h := h.2 c_3
      refine lv_iload_n hC.1 hC.2.1 dX0_costInWorld_14 rfl (lv_at hl 2 rfl) ?_
      refine lv_iload hC.1 hC.2.1 dX0_costInWorld_15 (lv_at hl 4 rfl) ?_
      refine lv_ishr hC.1 hC.2.1 dX0_costInWorld_17 ?_
      refine lv_iconst (v := 1) hC.1 hC.2.1 dX0_costInWorld_18 (by decide) ?_
      refine lv_iand hC.1 hC.2.1 dX0_costInWorld_19 ?_
      refine lv_if_eq (tgt := 35) hC.1 hC.2.1 dX0_costInWorld_20 (by decide) (fun c_4 => ?_) (fun c_4 => ?_)
      · have h := h.1 c_4
        exact qX0_costInWorld_35 hC hr hlk ih _ _ _ _ _ _ H locs ls h hM (lv_sub hl [0, 1, 2, 3, 4] rfl)
      · have h := h.2 c_4
        refine lv_iload_n hC.1 hC.2.1 dX0_costInWorld_23 rfl (lv_at hl 3 rfl) ?_
        refine lv_aload_n hC.1 hC.2.1 dX0_costInWorld_24 rfl (lv_at hl 0 rfl) ?_
        obtain ⟨ok_5, h⟩ := h
        refine mm_gr hC hM (ci := 0) (j := 9) ⟨ok_2, ok_5⟩ rfl (by decide) (by decide) tw_55 rfl dX0_costInWorld_25 ?_
        refine lv_iload_n hC.1 hC.2.1 dX0_costInWorld_28 rfl (lv_at hl 1 rfl) ?_
        obtain ⟨ok_6, h⟩ := h
        refine mm_al hC hM (t0 := 4) ok_6 (by decide) rfl rfl dX0_costInWorld_29 ?_
        refine lv_iload hC.1 hC.2.1 dX0_costInWorld_30 (lv_at hl 4 rfl) ?_
        obtain ⟨ok_7, h⟩ := h
        refine mm_il hC hM ok_7 dX0_costInWorld_32 ?_
        refine lv_iadd hC.1 hC.2.1 dX0_costInWorld_33 ?_
        refine lv_topi (fun x3_8 ex3_8 => ?_)
        have h := h x3_8 ex3_8
        refine lv_istore_n (lv' := [(3, .int x3_8), (0, .ref (b0 + x0)), (1, .int x1), (2, .int x2), (4, .int x4)]) hC.1 hC.2.1 dX0_costInWorld_34 rfl hl (by decide) rfl (fun ls hl => ?_)
        exact qX0_costInWorld_35 hC hr hlk ih _ _ _ _ _ _ H locs ls h hM (lv_sub hl [1, 2, 3, 0, 4] rfl)
set_option maxHeartbeats 4000000 in
set_option maxRecDepth 100000 in
theorem mX0_costInWorld (l : Launch) (G : Gt) (b0 : Nat) (S : St) (o : Nat) (x1 : Int32) (x2 : Int32) (K : Int32 → St → Prop) : CI l G b0 S yX0_costInWorld cX0_costInWorld 5 (some .int) rmX0_costInWorld [.ref (b0 + o), .int x1, .int x2] (wX0_costInWorld S o x1 x2 K) K := by
  refine met_of (by decide) (Nat.le_of_ble_eq_true rfl) rfl ?_
  intro p e s m below meth c hC hr hlk hin h H locs ls hM hl
  unfold wX0_costInWorld at h
  refine lv_iconst (v := 0) hC.1 hC.2.1 dX0_costInWorld_0 (by decide) ?_
  refine lv_istore_n (lv' := [(3, .int 0), (0, .ref (b0 + o)), (1, .int x1), (2, .int x2)]) hC.1 hC.2.1 dX0_costInWorld_1 rfl hl (by decide) rfl (fun ls hl => ?_)
  refine lv_iconst (v := 0) hC.1 hC.2.1 dX0_costInWorld_2 (by decide) ?_
  refine lv_istore (lv' := [(4, .int 0), (3, .int 0), (0, .ref (b0 + o)), (1, .int x1), (2, .int x2)]) hC.1 hC.2.1 dX0_costInWorld_3 hl (by decide) rfl (fun ls hl => ?_)
  obtain ⟨n1, h⟩ := h
  exact qX0_costInWorld_5 hC hr hlk n1 _ _ _ _ _ _ H locs ls h hM (lv_sub hl [2, 3, 4, 1, 0] rfl)
set_option maxHeartbeats 4000000 in
set_option maxRecDepth 100000 in
theorem mX0_hasWorld (l : Launch) (G : Gt) (b0 : Nat) (S : St) (o : Nat) (x1 : Int32) (K : Int32 → St → Prop) : CI l G b0 S yX0_hasWorld cX0_hasWorld 2 (some .boolean) rmX0_hasWorld [.ref (b0 + o), .int x1] (wX0_hasWorld S o x1 K) K := by
  refine met_of (by decide) (Nat.le_of_ble_eq_true rfl) rfl ?_
  intro p e s m below meth c hC hr hlk hin h H locs ls hM hl
  unfold wX0_hasWorld at h
  refine lv_iload_n hC.1 hC.2.1 dX0_hasWorld_0 rfl (lv_at hl 1 rfl) ?_
  refine lv_bipush (v := 8) hC.1 hC.2.1 dX0_hasWorld_1 (by decide) ?_
  refine mm_ri hM (mm_SN (As := [.int x1, .int 8]) (rest := []) hC hM hl.1 (mX8_isWithin l G b0 S x1 8 _) h kX8_isWithin nn_7 rfl (by decide) rfl (Nat.le_of_ble_eq_true rfl) dX0_hasWorld_3 (by decide)) (fun r_2 S_1 H locs h hM => ?_)
  refine lv_if_eq (tgt := 24) hC.1 hC.2.1 dX0_hasWorld_6 (by decide) (fun c_3 => ?_) (fun c_3 => ?_)
  · have h := h.1 c_3
    refine lv_iconst (v := 0) hC.1 hC.2.1 dX0_hasWorld_24 (by decide) ?_
    exact mm_zret hC hr hlk hM rfl h dX0_hasWorld_25
  · have h := h.2 c_3
    refine lv_aload_n hC.1 hC.2.1 dX0_hasWorld_9 rfl (lv_at hl 0 rfl) ?_
    obtain ⟨ok_4, h⟩ := h
    refine mm_gi hC hM (ci := 0) (j := 3) ok_4 rfl (by decide) (by decide) tw_40 rfl dX0_hasWorld_10 ?_
    refine lv_iload_n hC.1 hC.2.1 dX0_hasWorld_13 rfl (lv_at hl 1 rfl) ?_
    refine lv_ishr hC.1 hC.2.1 dX0_hasWorld_14 ?_
    refine lv_iconst (v := 1) hC.1 hC.2.1 dX0_hasWorld_15 (by decide) ?_
    refine lv_iand hC.1 hC.2.1 dX0_hasWorld_16 ?_
    refine lv_if_eq (tgt := 24) hC.1 hC.2.1 dX0_hasWorld_17 (by decide) (fun c_5 => ?_) (fun c_5 => ?_)
    · have h := h.1 c_5
      refine lv_iconst (v := 0) hC.1 hC.2.1 dX0_hasWorld_24 (by decide) ?_
      exact mm_zret hC hr hlk hM rfl h dX0_hasWorld_25
    · have h := h.2 c_5
      refine lv_iconst (v := 1) hC.1 hC.2.1 dX0_hasWorld_20 (by decide) ?_
      refine lv_goto (tgt := 25) hC.1 hC.2.1 dX0_hasWorld_21 (by decide) ?_
      exact mm_zret hC hr hlk hM rfl h dX0_hasWorld_25
