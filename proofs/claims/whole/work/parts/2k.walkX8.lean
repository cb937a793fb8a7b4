set_option maxHeartbeats 4000000 in
set_option maxRecDepth 100000 in
theorem mX8_accepted (l : Launch) (G : Gt) (b0 : Nat) (S : St) (o : Nat) (x1 : Int32) (K : Int32 → St → Prop) : CI l G b0 S yX8_accepted cX8_accepted 2 (some .int) rmX8_accepted [.ref (b0 + o), .int x1] (wX8_accepted S o x1 K) K := by
  refine met_of (by decide) (Nat.le_of_ble_eq_true rfl) rfl ?_
  intro p e s m below meth c hC hr hlk hin h H locs ls hM hl
  unfold wX8_accepted at h
  refine lv_aload_n hC.1 hC.2.1 dX8_accepted_0 rfl (lv_at hl 0 rfl) ?_
  refine lv_iconst (v := 0) hC.1 hC.2.1 dX8_accepted_1 (by decide) ?_
  obtain ⟨ok_1, h⟩ := h
  refine mm_pi hC hM (ci := 8) (j := 9) (ty := .int) ok_1 rfl (by decide) (by decide) tw_311 rfl rfl (by decide +kernel) rfl rfl dX8_accepted_2 (fun S_2 H locs eS_2 hM => ?_)
  have h := h S_2 eS_2
  refine lv_aload_n hC.1 hC.2.1 dX8_accepted_5 rfl (lv_at hl 0 rfl) ?_
  obtain ⟨ok_3, h⟩ := h
  refine mm_gr hC hM (ci := 8) (j := 5) ok_3 rfl (by decide) (by decide) tw_307 rfl dX8_accepted_6 ?_
  obtain ⟨ok_6, h⟩ := h
  refine mm_rv hM (mm_V (As := []) (rest := []) hC hM hl.1 (mX1_workOutAnew l G b0 S_2 (sR S_2 o 5) _) h (ci := 1) ok_6 rfl rfl kX1_workOutAnew tw_355 rfl (by decide) rfl (Nat.le_of_ble_eq_true rfl) dX8_accepted_9 (by decide)) (fun S_4 H locs h hM => ?_)
  refine lv_iload_n hC.1 hC.2.1 dX8_accepted_12 rfl (lv_at hl 1 rfl) ?_
  exact mm_iret hC hr hlk hM h dX8_accepted_13
set_option maxHeartbeats 4000000 in
set_option maxRecDepth 100000 in
theorem mX8_refused (l : Launch) (G : Gt) (b0 : Nat) (S : St) (o : Nat) (x1 : Int32) (K : Int32 → St → Prop) : CI l G b0 S yX8_refused cX8_refused 2 (some .int) rmX8_refused [.ref (b0 + o), .int x1] (wX8_refused S o x1 K) K := by
  refine met_of (by decide) (Nat.le_of_ble_eq_true rfl) rfl ?_
  intro p e s m below meth c hC hr hlk hin h H locs ls hM hl
  unfold wX8_refused at h
  refine lv_aload_n hC.1 hC.2.1 dX8_refused_0 rfl (lv_at hl 0 rfl) ?_
  refine lv_iload_n hC.1 hC.2.1 dX8_refused_1 rfl (lv_at hl 1 rfl) ?_
  obtain ⟨ok_1, h⟩ := h
  refine mm_pi hC hM (ci := 8) (j := 9) (ty := .int) ok_1 rfl (by decide) (by decide) tw_311 rfl rfl (by decide +kernel) rfl rfl dX8_refused_2 (fun S_2 H locs eS_2 hM => ?_)
  have h := h S_2 eS_2
  refine lv_iload_n hC.1 hC.2.1 dX8_refused_5 rfl (lv_at hl 1 rfl) ?_
  exact mm_iret hC hr hlk hM h dX8_refused_6
set_option maxHeartbeats 4000000 in
set_option maxRecDepth 100000 in
theorem mX8_back (l : Launch) (G : Gt) (b0 : Nat) (S : St) (o : Nat) (x1 : Int32) (K : Int32 → St → Prop) : CI l G b0 S yX8_back cX8_back 2 (some .int) rmX8_back [.ref (b0 + o), .int x1] (wX8_back S o x1 K) K := by
  refine met_of (by decide) (Nat.le_of_ble_eq_true rfl) rfl ?_
  intro p e s m below meth c hC hr hlk hin h H locs ls hM hl
  unfold wX8_back at h
  refine lv_iload_n hC.1 hC.2.1 dX8_back_0 rfl (lv_at hl 1 rfl) ?_
  refine lv_iconst (v := 3) hC.1 hC.2.1 dX8_back_1 (by decide) ?_
  refine mm_ri hM (mm_S (As := [.int x1, .int 3]) (rest := []) hC hM hl.1 (mX8_isWithin l G b0 S x1 3 _) h kX8_isWithin tw_367 rfl (by decide) rfl (Nat.le_of_ble_eq_true rfl) dX8_back_2 (by decide)) (fun r_2 S_1 H locs h hM => ?_)
  refine lv_if_ne (tgt := 14) hC.1 hC.2.1 dX8_back_5 (by decide) (fun c_3 => ?_) (fun c_3 => ?_)
  · have h := h.2 c_3
    refine lv_aload_n hC.1 hC.2.1 dX8_back_14 rfl (lv_at hl 0 rfl) ?_
    obtain ⟨ok_4, h⟩ := h
    refine mm_gr hC hM (ci := 8) (j := 4) ok_4 rfl (by decide) (by decide) tw_306 rfl dX8_back_15 ?_
    refine lv_iload_n hC.1 hC.2.1 dX8_back_18 rfl (lv_at hl 1 rfl) ?_
    obtain ⟨ok_5, h⟩ := h
    refine mm_zl hC hM ok_5 dX8_back_19 ?_
    refine lv_if_ne (tgt := 30) hC.1 hC.2.1 dX8_back_20 (by decide) (fun c_6 => ?_) (fun c_6 => ?_)
    · have h := h.2 c_6
      refine lv_aload_n hC.1 hC.2.1 dX8_back_30 rfl (lv_at hl 0 rfl) ?_
      obtain ⟨ok_7, h⟩ := h
      refine mm_gr hC hM (ci := 8) (j := 0) ⟨ok_4.1, ok_7⟩ rfl (by decide) (by decide) tw_302 rfl dX8_back_31 ?_
      refine lv_aload_n hC.1 hC.2.1 dX8_back_34 rfl (lv_at hl 0 rfl) ?_
      obtain ⟨ok_8, h⟩ := h
      refine mm_gr hC hM (ci := 8) (j := 3) ⟨ok_4.1, ok_8⟩ rfl (by decide) (by decide) tw_305 rfl dX8_back_35 ?_
      refine lv_iload_n hC.1 hC.2.1 dX8_back_38 rfl (lv_at hl 1 rfl) ?_
      obtain ⟨ok_9, h⟩ := h
      refine mm_al hC hM (t0 := 2) ok_9 (by decide) rfl rfl dX8_back_39 ?_
      obtain ⟨ok_12, h⟩ := h
      refine mm_rv hM (mm_V (As := [.ref (b0 + (sR S_1 (sR S_1 o 3) (x1 : Int32).toNatClampNeg))]) (rest := []) hC hM hl.1 (mX0_copyFrom l G b0 S_1 (sR S_1 o 0) (sR S_1 (sR S_1 o 3) (x1 : Int32).toNatClampNeg) _) h (ci := 0) ok_12 rfl rfl kX0_copyFrom tw_740 rfl (by decide) rfl (Nat.le_of_ble_eq_true rfl) dX8_back_40 (by decide)) (fun S_10 H locs h hM => ?_)
      refine lv_aload_n hC.1 hC.2.1 dX8_back_43 rfl (lv_at hl 0 rfl) ?_
      obtain ⟨ok_13, h⟩ := h
      refine mm_gr hC hM (ci := 8) (j := 1) ok_13 rfl (by decide) (by decide) tw_303 rfl dX8_back_44 ?_
      refine lv_aload_n hC.1 hC.2.1 dX8_back_47 rfl (lv_at hl 0 rfl) ?_
      obtain ⟨ok_14, h⟩ := h
      refine mm_gr hC hM (ci := 8) (j := 0) ⟨ok_13.1, ok_14⟩ rfl (by decide) (by decide) tw_302 rfl dX8_back_48 ?_
      obtain ⟨ok_17, h⟩ := h
      refine mm_ri hM (mm_V (As := [.ref (b0 + (sR S_10 o 0))]) (rest := []) hC hM hl.1 (mX3_relist l G b0 S_10 (sR S_10 o 1) (sR S_10 o 0) _) h (ci := 3) ok_17 rfl rfl kX3_relist tw_108 rfl (by decide) rfl (Nat.le_of_ble_eq_true rfl) dX8_back_51 (by decide)) (fun r_16 S_15 H locs h hM => ?_)
      refine lv_pop hC.1 hC.2.1 dX8_back_54 rfl ?_
      refine lv_aload_n hC.1 hC.2.1 dX8_back_55 rfl (lv_at hl 0 rfl) ?_
      refine lv_iconst (v := 0) hC.1 hC.2.1 dX8_back_56 (by decide) ?_
      obtain ⟨ok_20, h⟩ := h
      refine mm_ri hM (mm_V (As := [.int 0]) (rest := []) hC hM hl.1 (mX8_accepted l G b0 S_15 o 0 _) h (ci := 8) ok_20 rfl rfl kX8_accepted tw_351 rfl (by decide) rfl (Nat.le_of_ble_eq_true rfl) dX8_back_57 (by decide)) (fun r_19 S_18 H locs h hM => ?_)
      exact mm_iret hC hr hlk hM h dX8_back_60
    · have h := h.1 c_6
      refine lv_aload_n hC.1 hC.2.1 dX8_back_23 rfl (lv_at hl 0 rfl) ?_
      refine lv_bipush (v := (-2)) hC.1 hC.2.1 dX8_back_24 (by decide) ?_
      refine mm_ri hM (mm_V (As := [.int (-2)]) (rest := []) hC hM hl.1 (mX8_refused l G b0 S_1 o (-2) _) h (ci := 8) ok_4.1 rfl rfl kX8_refused tw_343 rfl (by decide) rfl (Nat.le_of_ble_eq_true rfl) dX8_back_26 (by decide)) (fun r_22 S_21 H locs h hM => ?_)
      exact mm_iret hC hr hlk hM h dX8_back_29
  · have h := h.1 c_3
    refine lv_aload_n hC.1 hC.2.1 dX8_back_8 rfl (lv_at hl 0 rfl) ?_
    refine lv_iconst (v := (-1)) hC.1 hC.2.1 dX8_back_9 (by decide) ?_
    obtain ⟨ok_25, h⟩ := h
    refine mm_ri hM (mm_V (As := [.int (-1)]) (rest := []) hC hM hl.1 (mX8_refused l G b0 S_1 o (-1) _) h (ci := 8) ok_25 rfl rfl kX8_refused tw_343 rfl (by decide) rfl (Nat.le_of_ble_eq_true rfl) dX8_back_10 (by decide)) (fun r_24 S_23 H locs h hM => ?_)
    exact mm_iret hC hr hlk hM h dX8_back_13
set_option maxHeartbeats 4000000 in
set_option maxRecDepth 100000 in
theorem mX8_best (l : Launch) (G : Gt) (b0 : Nat) (S : St) (o : Nat) (K : Int32 → St → Prop) : CI l G b0 S yX8_best cX8_best 1 (some .int) rmX8_best [.ref (b0 + o)] (wX8_best S o K) K := by
  refine met_of (by decide) (Nat.le_of_ble_eq_true rfl) rfl ?_
  intro p e s m below meth c hC hr hlk hin h H locs ls hM hl
  unfold wX8_best at h
  refine lv_aload_n hC.1 hC.2.1 dX8_best_0 rfl (lv_at hl 0 rfl) ?_
  obtain ⟨ok_1, h⟩ := h
  refine mm_gr hC hM (ci := 8) (j := 1) ok_1 rfl (by decide) (by decide) tw_303 rfl dX8_best_1 ?_
  obtain ⟨ok_2, h⟩ := h
  refine mm_gi hC hM (ci := 3) (j := 0) ok_2 rfl (by decide) (by decide) tw_93 rfl dX8_best_4 ?_
  refine lv_if_ne (tgt := 15) hC.1 hC.2.1 dX8_best_7 (by decide) (fun c_3 => ?_) (fun c_3 => ?_)
  · have h := h.2 c_3
    refine lv_aload_n hC.1 hC.2.1 dX8_best_15 rfl (lv_at hl 0 rfl) ?_
    obtain ⟨ok_4, h⟩ := h
    refine mm_gr hC hM (ci := 8) (j := 5) ⟨ok_1.1, ok_4⟩ rfl (by decide) (by decide) tw_307 rfl dX8_best_16 ?_
    obtain ⟨ok_7, h⟩ := h
    refine mm_ri hM (mm_V (As := []) (rest := []) hC hM hl.1 (mX1_leastRued l G b0 S (sR S o 5) _) h (ci := 1) ok_7 rfl rfl kX1_leastRued tw_527 rfl (by decide) rfl (Nat.le_of_ble_eq_true rfl) dX8_best_19 (by decide)) (fun r_6 S_5 H locs h hM => ?_)
    exact mm_iret hC hr hlk hM h dX8_best_22
  · have h := h.1 c_3
    refine lv_bipush (v := (-6)) hC.1 hC.2.1 dX8_best_10 (by decide) ?_
    refine lv_goto (tgt := 22) hC.1 hC.2.1 dX8_best_12 (by decide) ?_
    exact mm_iret hC hr hlk hM h dX8_best_22
set_option maxHeartbeats 4000000 in
set_option maxRecDepth 100000 in
theorem mX8_bestOf (l : Launch) (G : Gt) (b0 : Nat) (S : St) (o : Nat) (K : Int32 → St → Prop) : CI l G b0 S yX8_bestOf cX8_bestOf 1 (some .int) rmX8_bestOf [.ref (b0 + o)] (wX8_bestOf S o K) K := by
  refine met_of (by decide) (Nat.le_of_ble_eq_true rfl) rfl ?_
  intro p e s m below meth c hC hr hlk hin h H locs ls hM hl
  unfold wX8_bestOf at h
  refine lv_aload_n hC.1 hC.2.1 dX8_bestOf_0 rfl (lv_at hl 0 rfl) ?_
  obtain ⟨ok_1, h⟩ := h
  refine mm_gr hC hM (ci := 8) (j := 0) ok_1 rfl (by decide) (by decide) tw_302 rfl dX8_bestOf_1 ?_
  obtain ⟨ok_2, h⟩ := h
  refine mm_gi hC hM (ci := 0) (j := 3) ok_2 rfl (by decide) (by decide) tw_41 rfl dX8_bestOf_4 ?_
  refine lv_if_ne (tgt := 13) hC.1 hC.2.1 dX8_bestOf_7 (by decide) (fun c_3 => ?_) (fun c_3 => ?_)
  · have h := h.2 c_3
    refine lv_aload_n hC.1 hC.2.1 dX8_bestOf_13 rfl (lv_at hl 0 rfl) ?_
    obtain ⟨ok_4, h⟩ := h
    refine mm_gr hC hM (ci := 8) (j := 1) ⟨ok_1.1, ok_4⟩ rfl (by decide) (by decide) tw_303 rfl dX8_bestOf_14 ?_
    obtain ⟨ok_5, h⟩ := h
    refine mm_gi hC hM (ci := 3) (j := 0) ok_5 rfl (by decide) (by decide) tw_93 rfl dX8_bestOf_17 ?_
    refine lv_if_ne (tgt := 28) hC.1 hC.2.1 dX8_bestOf_20 (by decide) (fun c_6 => ?_) (fun c_6 => ?_)
    · have h := h.2 c_6
      refine lv_aload_n hC.1 hC.2.1 dX8_bestOf_28 rfl (lv_at hl 0 rfl) ?_
      obtain ⟨ok_7, h⟩ := h
      refine mm_gr hC hM (ci := 8) (j := 6) ⟨ok_1.1, ok_7⟩ rfl (by decide) (by decide) tw_308 rfl dX8_bestOf_29 ?_
      obtain ⟨ok_10, h⟩ := h
      refine mm_ri hM (mm_V (As := []) (rest := []) hC hM hl.1 (mX2_leastRued l G b0 S (sR S o 6) _) h (ci := 2) ok_10 rfl rfl kX2_leastRued tw_640 rfl (by decide) rfl (Nat.le_of_ble_eq_true rfl) dX8_bestOf_32 (by decide)) (fun r_9 S_8 H locs h hM => ?_)
      exact mm_iret hC hr hlk hM h dX8_bestOf_35
    · have h := h.1 c_6
      refine lv_bipush (v := (-6)) hC.1 hC.2.1 dX8_bestOf_23 (by decide) ?_
      refine lv_goto (tgt := 35) hC.1 hC.2.1 dX8_bestOf_25 (by decide) ?_
      exact mm_iret hC hr hlk hM h dX8_bestOf_35
  · have h := h.1 c_3
    refine lv_bipush (v := (-2)) hC.1 hC.2.1 dX8_bestOf_10 (by decide) ?_
    exact mm_iret hC hr hlk hM h dX8_bestOf_12
set_option maxHeartbeats 4000000 in
set_option maxRecDepth 100000 in
theorem mX8_isBeyondThings (l : Launch) (G : Gt) (b0 : Nat) (S : St) (o : Nat) (x1 : Int32) (K : Int32 → St → Prop) : CI l G b0 S yX8_isBeyondThings cX8_isBeyondThings 2 (some .boolean) rmX8_isBeyondThings [.ref (b0 + o), .int x1] (wX8_isBeyondThings S o x1 K) K := by
  refine met_of (by decide) (Nat.le_of_ble_eq_true rfl) rfl ?_
  intro p e s m below meth c hC hr hlk hin h H locs ls hM hl
  unfold wX8_isBeyondThings at h
  refine lv_iload_n hC.1 hC.2.1 dX8_isBeyondThings_0 rfl (lv_at hl 1 rfl) ?_
  refine lv_iconst (v := 1) hC.1 hC.2.1 dX8_isBeyondThings_1 (by decide) ?_
  refine lv_aload_n hC.1 hC.2.1 dX8_isBeyondThings_2 rfl (lv_at hl 0 rfl) ?_
  obtain ⟨ok_1, h⟩ := h
  refine mm_gr hC hM (ci := 8) (j := 0) ok_1 rfl (by decide) (by decide) tw_302 rfl dX8_isBeyondThings_3 ?_
  obtain ⟨ok_2, h⟩ := h
  refine mm_gi hC hM (ci := 0) (j := 0) ok_2 rfl (by decide) (by decide) tw_32 rfl dX8_isBeyondThings_6 ?_
  refine lv_ishl hC.1 hC.2.1 dX8_isBeyondThings_9 ?_
  refine mm_ri hM (mm_S (As := [.int x1, .int (1 <<< ((sI S (sR S o 0) 0) &&& 31))]) (rest := []) hC hM hl.1 (mX8_isWithin l G b0 S x1 (1 <<< ((sI S (sR S o 0) 0) &&& 31)) _) h kX8_isWithin tw_367 rfl (by decide) rfl (Nat.le_of_ble_eq_true rfl) dX8_isBeyondThings_10 (by decide)) (fun r_4 S_3 H locs h hM => ?_)
  refine lv_if_ne (tgt := 20) hC.1 hC.2.1 dX8_isBeyondThings_13 (by decide) (fun c_5 => ?_) (fun c_5 => ?_)
  · have h := h.2 c_5
    refine lv_iconst (v := 0) hC.1 hC.2.1 dX8_isBeyondThings_20 (by decide) ?_
    exact mm_zret hC hr hlk hM rfl h dX8_isBeyondThings_21
  · have h := h.1 c_5
    refine lv_iconst (v := 1) hC.1 hC.2.1 dX8_isBeyondThings_16 (by decide) ?_
    refine lv_goto (tgt := 21) hC.1 hC.2.1 dX8_isBeyondThings_17 (by decide) ?_
    exact mm_zret hC hr hlk hM rfl h dX8_isBeyondThings_21
set_option maxHeartbeats 4000000 in
set_option maxRecDepth 100000 in
theorem mX8_cheapest (l : Launch) (G : Gt) (b0 : Nat) (S : St) (o : Nat) (x1 : Int32) (K : Int32 → St → Prop) : CI l G b0 S yX8_cheapest cX8_cheapest 2 (some .int) rmX8_cheapest [.ref (b0 + o), .int x1] (wX8_cheapest S o x1 K) K := by
  refine met_of (by decide) (Nat.le_of_ble_eq_true rfl) rfl ?_
  intro p e s m below meth c hC hr hlk hin h H locs ls hM hl
  unfold wX8_cheapest at h
  refine lv_aload_n hC.1 hC.2.1 dX8_cheapest_0 rfl (lv_at hl 0 rfl) ?_
  refine lv_iload_n hC.1 hC.2.1 dX8_cheapest_1 rfl (lv_at hl 1 rfl) ?_
  obtain ⟨ok_3, h⟩ := h
  refine mm_ri hM (mm_V (As := [.int x1]) (rest := []) hC hM hl.1 (mX8_isBeyondThings l G b0 S o x1 _) h (ci := 8) ok_3 rfl rfl kX8_isBeyondThings tw_473 rfl (by decide) rfl (Nat.le_of_ble_eq_true rfl) dX8_cheapest_2 (by decide)) (fun r_2 S_1 H locs h hM => ?_)
  refine lv_if_eq (tgt := 10) hC.1 hC.2.1 dX8_cheapest_5 (by decide) (fun c_4 => ?_) (fun c_4 => ?_)
  · have h := h.1 c_4
    refine lv_aload_n hC.1 hC.2.1 dX8_cheapest_10 rfl (lv_at hl 0 rfl) ?_
    obtain ⟨ok_5, h⟩ := h
    refine mm_gr hC hM (ci := 8) (j := 1) ok_5 rfl (by decide) (by decide) tw_303 rfl dX8_cheapest_11 ?_
    obtain ⟨ok_6, h⟩ := h
    refine mm_gi hC hM (ci := 3) (j := 0) ok_6 rfl (by decide) (by decide) tw_93 rfl dX8_cheapest_14 ?_
    refine lv_if_ne (tgt := 25) hC.1 hC.2.1 dX8_cheapest_17 (by decide) (fun c_7 => ?_) (fun c_7 => ?_)
    · have h := h.2 c_7
      refine lv_aload_n hC.1 hC.2.1 dX8_cheapest_25 rfl (lv_at hl 0 rfl) ?_
      obtain ⟨ok_8, h⟩ := h
      refine mm_gr hC hM (ci := 8) (j := 5) ⟨ok_5.1, ok_8⟩ rfl (by decide) (by decide) tw_307 rfl dX8_cheapest_26 ?_
      refine lv_iload_n hC.1 hC.2.1 dX8_cheapest_29 rfl (lv_at hl 1 rfl) ?_
      obtain ⟨ok_11, h⟩ := h
      refine mm_ri hM (mm_V (As := [.int x1]) (rest := []) hC hM hl.1 (mX1_cheapestAt l G b0 S_1 (sR S_1 o 5) x1 _) h (ci := 1) ok_11 rfl rfl kX1_cheapestAt tw_497 rfl (by decide) rfl (Nat.le_of_ble_eq_true rfl) dX8_cheapest_30 (by decide)) (fun r_10 S_9 H locs h hM => ?_)
      exact mm_iret hC hr hlk hM h dX8_cheapest_33
    · have h := h.1 c_7
      refine lv_bipush (v := (-6)) hC.1 hC.2.1 dX8_cheapest_20 (by decide) ?_
      refine lv_goto (tgt := 33) hC.1 hC.2.1 dX8_cheapest_22 (by decide) ?_
      exact mm_iret hC hr hlk hM h dX8_cheapest_33
  · have h := h.2 c_4
    refine lv_iconst (v := (-1)) hC.1 hC.2.1 dX8_cheapest_8 (by decide) ?_
    exact mm_iret hC hr hlk hM h dX8_cheapest_9
set_option maxHeartbeats 4000000 in
set_option maxRecDepth 100000 in
theorem mX8_cheapestIn (l : Launch) (G : Gt) (b0 : Nat) (S : St) (o : Nat) (x1 : Int32) (K : Int32 → St → Prop) : CI l G b0 S yX8_cheapestIn cX8_cheapestIn 2 (some .int) rmX8_cheapestIn [.ref (b0 + o), .int x1] (wX8_cheapestIn S o x1 K) K := by
  refine met_of (by decide) (Nat.le_of_ble_eq_true rfl) rfl ?_
  intro p e s m below meth c hC hr hlk hin h H locs ls hM hl
  unfold wX8_cheapestIn at h
  refine lv_iload_n hC.1 hC.2.1 dX8_cheapestIn_0 rfl (lv_at hl 1 rfl) ?_
  refine lv_bipush (v := 8) hC.1 hC.2.1 dX8_cheapestIn_1 (by decide) ?_
  refine mm_ri hM (mm_S (As := [.int x1, .int 8]) (rest := []) hC hM hl.1 (mX8_isWithin l G b0 S x1 8 _) h kX8_isWithin tw_367 rfl (by decide) rfl (Nat.le_of_ble_eq_true rfl) dX8_cheapestIn_3 (by decide)) (fun r_2 S_1 H locs h hM => ?_)
  refine lv_if_ne (tgt := 11) hC.1 hC.2.1 dX8_cheapestIn_6 (by decide) (fun c_3 => ?_) (fun c_3 => ?_)
  · have h := h.2 c_3
    refine lv_aload_n hC.1 hC.2.1 dX8_cheapestIn_11 rfl (lv_at hl 0 rfl) ?_
    obtain ⟨ok_4, h⟩ := h
    refine mm_gr hC hM (ci := 8) (j := 0) ok_4 rfl (by decide) (by decide) tw_302 rfl dX8_cheapestIn_12 ?_
    refine lv_iload_n hC.1 hC.2.1 dX8_cheapestIn_15 rfl (lv_at hl 1 rfl) ?_
    obtain ⟨ok_7, h⟩ := h
    refine mm_ri hM (mm_V (As := [.int x1]) (rest := []) hC hM hl.1 (mX0_hasWorld l G b0 S_1 (sR S_1 o 0) x1 _) h (ci := 0) ok_7 rfl rfl kX0_hasWorld tw_435 rfl (by decide) rfl (Nat.le_of_ble_eq_true rfl) dX8_cheapestIn_16 (by decide)) (fun r_6 S_5 H locs h hM => ?_)
    refine lv_if_ne (tgt := 25) hC.1 hC.2.1 dX8_cheapestIn_19 (by decide) (fun c_8 => ?_) (fun c_8 => ?_)
    · have h := h.2 c_8
      refine lv_aload_n hC.1 hC.2.1 dX8_cheapestIn_25 rfl (lv_at hl 0 rfl) ?_
      obtain ⟨ok_9, h⟩ := h
      refine mm_gr hC hM (ci := 8) (j := 1) ok_9 rfl (by decide) (by decide) tw_303 rfl dX8_cheapestIn_26 ?_
      obtain ⟨ok_10, h⟩ := h
      refine mm_gi hC hM (ci := 3) (j := 0) ok_10 rfl (by decide) (by decide) tw_93 rfl dX8_cheapestIn_29 ?_
      refine lv_if_ne (tgt := 40) hC.1 hC.2.1 dX8_cheapestIn_32 (by decide) (fun c_11 => ?_) (fun c_11 => ?_)
      · have h := h.2 c_11
        refine lv_aload_n hC.1 hC.2.1 dX8_cheapestIn_40 rfl (lv_at hl 0 rfl) ?_
        obtain ⟨ok_12, h⟩ := h
        refine mm_gr hC hM (ci := 8) (j := 6) ⟨ok_9.1, ok_12⟩ rfl (by decide) (by decide) tw_308 rfl dX8_cheapestIn_41 ?_
        refine lv_iload_n hC.1 hC.2.1 dX8_cheapestIn_44 rfl (lv_at hl 1 rfl) ?_
        obtain ⟨ok_15, h⟩ := h
        refine mm_ri hM (mm_V (As := [.int x1]) (rest := []) hC hM hl.1 (mX2_cheapestThere l G b0 S_5 (sR S_5 o 6) x1 _) h (ci := 2) ok_15 rfl rfl kX2_cheapestThere tw_607 rfl (by decide) rfl (Nat.le_of_ble_eq_true rfl) dX8_cheapestIn_45 (by decide)) (fun r_14 S_13 H locs h hM => ?_)
        exact mm_iret hC hr hlk hM h dX8_cheapestIn_48
      · have h := h.1 c_11
        refine lv_bipush (v := (-6)) hC.1 hC.2.1 dX8_cheapestIn_35 (by decide) ?_
        refine lv_goto (tgt := 48) hC.1 hC.2.1 dX8_cheapestIn_37 (by decide) ?_
        exact mm_iret hC hr hlk hM h dX8_cheapestIn_48
    · have h := h.1 c_8
      refine lv_bipush (v := (-2)) hC.1 hC.2.1 dX8_cheapestIn_22 (by decide) ?_
      exact mm_iret hC hr hlk hM h dX8_cheapestIn_24
  · have h := h.1 c_3
    refine lv_iconst (v := (-1)) hC.1 hC.2.1 dX8_cheapestIn_9 (by decide) ?_
    exact mm_iret hC hr hlk hM h dX8_cheapestIn_10
set_option maxHeartbeats 4000000 in
set_option maxRecDepth 100000 in
theorem mX8_choice (l : Launch) (G : Gt) (b0 : Nat) (S : St) (o : Nat) (x1 : Int32) (K : Int32 → St → Prop) : CI l G b0 S yX8_choice cX8_choice 2 (some .int) rmX8_choice [.ref (b0 + o), .int x1] (wX8_choice S o x1 K) K := by
  refine met_of (by decide) (Nat.le_of_ble_eq_true rfl) rfl ?_
  intro p e s m below meth c hC hr hlk hin h H locs ls hM hl
  unfold wX8_choice at h
  refine lv_aload_n hC.1 hC.2.1 dX8_choice_0 rfl (lv_at hl 0 rfl) ?_
  obtain ⟨ok_1, h⟩ := h
  refine mm_gr hC hM (ci := 8) (j := 1) ok_1 rfl (by decide) (by decide) tw_303 rfl dX8_choice_1 ?_
  refine lv_iload_n hC.1 hC.2.1 dX8_choice_4 rfl (lv_at hl 1 rfl) ?_
  obtain ⟨ok_4, h⟩ := h
  refine mm_ri hM (mm_V (As := [.int x1]) (rest := []) hC hM hl.1 (mX3_has l G b0 S (sR S o 1) x1 _) h (ci := 3) ok_4 rfl rfl kX3_has tw_452 rfl (by decide) rfl (Nat.le_of_ble_eq_true rfl) dX8_choice_5 (by decide)) (fun r_3 S_2 H locs h hM => ?_)
  refine lv_if_eq (tgt := 23) hC.1 hC.2.1 dX8_choice_8 (by decide) (fun c_5 => ?_) (fun c_5 => ?_)
  · have h := h.1 c_5
    refine lv_iconst (v := (-1)) hC.1 hC.2.1 dX8_choice_23 (by decide) ?_
    exact mm_iret hC hr hlk hM h dX8_choice_24
  · have h := h.2 c_5
    refine lv_aload_n hC.1 hC.2.1 dX8_choice_11 rfl (lv_at hl 0 rfl) ?_
    obtain ⟨ok_6, h⟩ := h
    refine mm_gr hC hM (ci := 8) (j := 1) ok_6 rfl (by decide) (by decide) tw_303 rfl dX8_choice_12 ?_
    obtain ⟨ok_7, h⟩ := h
    refine mm_gr hC hM (ci := 3) (j := 1) ok_7 rfl (by decide) (by decide) tw_99 rfl dX8_choice_15 ?_
    refine lv_iload_n hC.1 hC.2.1 dX8_choice_18 rfl (lv_at hl 1 rfl) ?_
    obtain ⟨ok_8, h⟩ := h
    refine mm_il hC hM ok_8 dX8_choice_19 ?_
    refine lv_goto (tgt := 24) hC.1 hC.2.1 dX8_choice_20 (by decide) ?_
    exact mm_iret hC hr hlk hM h dX8_choice_24
set_option maxHeartbeats 4000000 in
set_option maxRecDepth 100000 in
theorem mX8_cost (l : Launch) (G : Gt) (b0 : Nat) (S : St) (o : Nat) (x1 : Int32) (x2 : Int32) (K : Int32 → St → Prop) : CI l G b0 S yX8_cost cX8_cost 3 (some .int) rmX8_cost [.ref (b0 + o), .int x1, .int x2] (wX8_cost S o x1 x2 K) K := by
  refine met_of (by decide) (Nat.le_of_ble_eq_true rfl) rfl ?_
  intro p e s m below meth c hC hr hlk hin h H locs ls hM hl
  unfold wX8_cost at h
  refine lv_aload_n hC.1 hC.2.1 dX8_cost_0 rfl (lv_at hl 0 rfl) ?_
  obtain ⟨ok_1, h⟩ := h
  refine mm_gr hC hM (ci := 8) (j := 1) ok_1 rfl (by decide) (by decide) tw_303 rfl dX8_cost_1 ?_
  refine lv_iload_n hC.1 hC.2.1 dX8_cost_4 rfl (lv_at hl 1 rfl) ?_
  obtain ⟨ok_4, h⟩ := h
  refine mm_ri hM (mm_V (As := [.int x1]) (rest := []) hC hM hl.1 (mX3_has l G b0 S (sR S o 1) x1 _) h (ci := 3) ok_4 rfl rfl kX3_has tw_452 rfl (by decide) rfl (Nat.le_of_ble_eq_true rfl) dX8_cost_5 (by decide)) (fun r_3 S_2 H locs h hM => ?_)
  refine lv_if_eq (tgt := 19) hC.1 hC.2.1 dX8_cost_8 (by decide) (fun c_5 => ?_) (fun c_5 => ?_)
  · have h := h.1 c_5
    refine lv_iconst (v := (-1)) hC.1 hC.2.1 dX8_cost_19 (by decide) ?_
    exact mm_iret hC hr hlk hM h dX8_cost_20
  · have h := h.2 c_5
    refine lv_aload_n hC.1 hC.2.1 dX8_cost_11 rfl (lv_at hl 0 rfl) ?_
    refine lv_iload_n hC.1 hC.2.1 dX8_cost_12 rfl (lv_at hl 2 rfl) ?_
    obtain ⟨ok_8, h⟩ := h
    refine mm_ri hM (mm_V (As := [.int x2]) (rest := []) hC hM hl.1 (mX8_isBeyondThings l G b0 S_2 o x2 _) h (ci := 8) ok_8 rfl rfl kX8_isBeyondThings tw_473 rfl (by decide) rfl (Nat.le_of_ble_eq_true rfl) dX8_cost_13 (by decide)) (fun r_7 S_6 H locs h hM => ?_)
    refine lv_if_eq (tgt := 21) hC.1 hC.2.1 dX8_cost_16 (by decide) (fun c_9 => ?_) (fun c_9 => ?_)
    · have h := h.1 c_9
      refine lv_aload_n hC.1 hC.2.1 dX8_cost_21 rfl (lv_at hl 0 rfl) ?_
      obtain ⟨ok_10, h⟩ := h
      refine mm_gr hC hM (ci := 8) (j := 5) ok_10 rfl (by decide) (by decide) tw_307 rfl dX8_cost_22 ?_
      refine lv_iload_n hC.1 hC.2.1 dX8_cost_25 rfl (lv_at hl 1 rfl) ?_
      refine lv_iload_n hC.1 hC.2.1 dX8_cost_26 rfl (lv_at hl 2 rfl) ?_
      obtain ⟨ok_13, h⟩ := h
      refine mm_ri hM (mm_V (As := [.int x1, .int x2]) (rest := []) hC hM hl.1 (mX1_costAt l G b0 S_6 (sR S_6 o 5) x1 x2 _) h (ci := 1) ok_13 rfl rfl kX1_costAt tw_477 rfl (by decide) rfl (Nat.le_of_ble_eq_true rfl) dX8_cost_27 (by decide)) (fun r_12 S_11 H locs h hM => ?_)
      exact mm_iret hC hr hlk hM h dX8_cost_30
    · have h := h.2 c_9
      refine lv_iconst (v := (-1)) hC.1 hC.2.1 dX8_cost_19 (by decide) ?_
      exact mm_iret hC hr hlk hM h dX8_cost_20
set_option maxHeartbeats 4000000 in
set_option maxRecDepth 100000 in
theorem mX8_costIn (l : Launch) (G : Gt) (b0 : Nat) (S : St) (o : Nat) (x1 : Int32) (x2 : Int32) (K : Int32 → St → Prop) : CI l G b0 S yX8_costIn cX8_costIn 3 (some .int) rmX8_costIn [.ref (b0 + o), .int x1, .int x2] (wX8_costIn S o x1 x2 K) K := by
  refine met_of (by decide) (Nat.le_of_ble_eq_true rfl) rfl ?_
  intro p e s m below meth c hC hr hlk hin h H locs ls hM hl
  unfold wX8_costIn at h
  refine lv_aload_n hC.1 hC.2.1 dX8_costIn_0 rfl (lv_at hl 0 rfl) ?_
  obtain ⟨ok_1, h⟩ := h
  refine mm_gr hC hM (ci := 8) (j := 0) ok_1 rfl (by decide) (by decide) tw_302 rfl dX8_costIn_1 ?_
  refine lv_iload_n hC.1 hC.2.1 dX8_costIn_4 rfl (lv_at hl 1 rfl) ?_
  obtain ⟨ok_4, h⟩ := h
  refine mm_ri hM (mm_V (As := [.int x1]) (rest := []) hC hM hl.1 (mX0_hasWorld l G b0 S (sR S o 0) x1 _) h (ci := 0) ok_4 rfl rfl kX0_hasWorld tw_435 rfl (by decide) rfl (Nat.le_of_ble_eq_true rfl) dX8_costIn_5 (by decide)) (fun r_3 S_2 H locs h hM => ?_)
  refine lv_if_eq (tgt := 22) hC.1 hC.2.1 dX8_costIn_8 (by decide) (fun c_5 => ?_) (fun c_5 => ?_)
  · have h := h.1 c_5
    refine lv_iconst (v := (-1)) hC.1 hC.2.1 dX8_costIn_22 (by decide) ?_
    exact mm_iret hC hr hlk hM h dX8_costIn_23
  · have h := h.2 c_5
    refine lv_aload_n hC.1 hC.2.1 dX8_costIn_11 rfl (lv_at hl 0 rfl) ?_
    obtain ⟨ok_6, h⟩ := h
    refine mm_gr hC hM (ci := 8) (j := 1) ok_6 rfl (by decide) (by decide) tw_303 rfl dX8_costIn_12 ?_
    refine lv_iload_n hC.1 hC.2.1 dX8_costIn_15 rfl (lv_at hl 2 rfl) ?_
    obtain ⟨ok_9, h⟩ := h
    refine mm_ri hM (mm_V (As := [.int x2]) (rest := []) hC hM hl.1 (mX3_has l G b0 S_2 (sR S_2 o 1) x2 _) h (ci := 3) ok_9 rfl rfl kX3_has tw_452 rfl (by decide) rfl (Nat.le_of_ble_eq_true rfl) dX8_costIn_16 (by decide)) (fun r_8 S_7 H locs h hM => ?_)
    refine lv_if_ne (tgt := 24) hC.1 hC.2.1 dX8_costIn_19 (by decide) (fun c_10 => ?_) (fun c_10 => ?_)
    · have h := h.2 c_10
      refine lv_aload_n hC.1 hC.2.1 dX8_costIn_24 rfl (lv_at hl 0 rfl) ?_
      obtain ⟨ok_11, h⟩ := h
      refine mm_gr hC hM (ci := 8) (j := 0) ok_11 rfl (by decide) (by decide) tw_302 rfl dX8_costIn_25 ?_
      refine lv_iload_n hC.1 hC.2.1 dX8_costIn_28 rfl (lv_at hl 1 rfl) ?_
      refine lv_aload_n hC.1 hC.2.1 dX8_costIn_29 rfl (lv_at hl 0 rfl) ?_
      obtain ⟨ok_12, h⟩ := h
      refine mm_gr hC hM (ci := 8) (j := 1) ⟨ok_11.1, ok_12⟩ rfl (by decide) (by decide) tw_303 rfl dX8_costIn_30 ?_
      obtain ⟨ok_13, h⟩ := h
      refine mm_gr hC hM (ci := 3) (j := 1) ok_13 rfl (by decide) (by decide) tw_99 rfl dX8_costIn_33 ?_
      refine lv_iload_n hC.1 hC.2.1 dX8_costIn_36 rfl (lv_at hl 2 rfl) ?_
      obtain ⟨ok_14, h⟩ := h
      refine mm_il hC hM ok_14 dX8_costIn_37 ?_
      obtain ⟨ok_17, h⟩ := h
      refine mm_ri hM (mm_V (As := [.int x1, .int (sI S_7 (sR S_7 (sR S_7 o 1) 1) (x2 : Int32).toNatClampNeg)]) (rest := []) hC hM hl.1 (mX0_costInWorld l G b0 S_7 (sR S_7 o 0) x1 (sI S_7 (sR S_7 (sR S_7 o 1) 1) (x2 : Int32).toNatClampNeg) _) h (ci := 0) ok_17 rfl rfl kX0_costInWorld tw_599 rfl (by decide) rfl (Nat.le_of_ble_eq_true rfl) dX8_costIn_38 (by decide)) (fun r_16 S_15 H locs h hM => ?_)
      exact mm_iret hC hr hlk hM h dX8_costIn_41
    · have h := h.1 c_10
      refine lv_iconst (v := (-1)) hC.1 hC.2.1 dX8_costIn_22 (by decide) ?_
      exact mm_iret hC hr hlk hM h dX8_costIn_23
set_option maxHeartbeats 4000000 in
set_option maxRecDepth 100000 in
theorem mX8_costOfThing (l : Launch) (G : Gt) (b0 : Nat) (S : St) (o : Nat) (x1 : Int32) (x2 : Int32) (K : Int32 → St → Prop) : CI l G b0 S yX8_costOfThing cX8_costOfThing 3 (some .int) rmX8_costOfThing [.ref (b0 + o), .int x1, .int x2] (wX8_costOfThing S o x1 x2 K) K := by
  refine met_of (by decide) (Nat.le_of_ble_eq_true rfl) rfl ?_
  intro p e s m below meth c hC hr hlk hin h H locs ls hM hl
  unfold wX8_costOfThing at h
  refine lv_iload_n hC.1 hC.2.1 dX8_costOfThing_0 rfl (lv_at hl 2 rfl) ?_
  refine lv_bipush (v := 10) hC.1 hC.2.1 dX8_costOfThing_1 (by decide) ?_
  refine lv_icmp_lt (tgt := 20) hC.1 hC.2.1 dX8_costOfThing_3 (by decide) (fun c_1 => ?_) (fun c_1 => ?_)
  · have h := h.1 c_1
    refine lv_iconst (v := (-1)) hC.1 hC.2.1 dX8_costOfThing_20 (by decide) ?_
    exact mm_iret hC hr hlk hM h dX8_costOfThing_21
  · have h := h.2 c_1
    refine lv_aload_n hC.1 hC.2.1 dX8_costOfThing_6 rfl (lv_at hl 0 rfl) ?_
    obtain ⟨ok_2, h⟩ := h
    refine mm_gr hC hM (ci := 8) (j := 0) ok_2 rfl (by decide) (by decide) tw_302 rfl dX8_costOfThing_7 ?_
    refine lv_iload_n hC.1 hC.2.1 dX8_costOfThing_10 rfl (lv_at hl 2 rfl) ?_
    refine lv_bipush (v := 10) hC.1 hC.2.1 dX8_costOfThing_11 (by decide) ?_
    refine lv_isub hC.1 hC.2.1 dX8_costOfThing_13 ?_
    obtain ⟨ok_5, h⟩ := h
    refine mm_ri hM (mm_V (As := [.int (x2 - 10)]) (rest := []) hC hM hl.1 (mX0_hasWorld l G b0 S (sR S o 0) (x2 - 10) _) h (ci := 0) ok_5 rfl rfl kX0_hasWorld tw_435 rfl (by decide) rfl (Nat.le_of_ble_eq_true rfl) dX8_costOfThing_14 (by decide)) (fun r_4 S_3 H locs h hM => ?_)
    refine lv_if_ne (tgt := 22) hC.1 hC.2.1 dX8_costOfThing_17 (by decide) (fun c_6 => ?_) (fun c_6 => ?_)
    · have h := h.2 c_6
      refine lv_aload_n hC.1 hC.2.1 dX8_costOfThing_22 rfl (lv_at hl 0 rfl) ?_
      obtain ⟨ok_7, h⟩ := h
      refine mm_gr hC hM (ci := 8) (j := 0) ok_7 rfl (by decide) (by decide) tw_302 rfl dX8_costOfThing_23 ?_
      obtain ⟨ok_8, h⟩ := h
      refine mm_gr hC hM (ci := 0) (j := 9) ok_8 rfl (by decide) (by decide) tw_59 rfl dX8_costOfThing_26 ?_
      refine lv_iload_n hC.1 hC.2.1 dX8_costOfThing_29 rfl (lv_at hl 2 rfl) ?_
      refine lv_bipush (v := 10) hC.1 hC.2.1 dX8_costOfThing_30 (by decide) ?_
      refine lv_isub hC.1 hC.2.1 dX8_costOfThing_32 ?_
      obtain ⟨ok_9, h⟩ := h
      refine mm_al hC hM (t0 := 4) ok_9 (by decide) rfl rfl dX8_costOfThing_33 ?_
      refine lv_iload_n hC.1 hC.2.1 dX8_costOfThing_34 rfl (lv_at hl 1 rfl) ?_
      obtain ⟨ok_10, h⟩ := h
      refine mm_il hC hM ok_10 dX8_costOfThing_35 ?_
      exact mm_iret hC hr hlk hM h dX8_costOfThing_36
    · have h := h.1 c_6
      refine lv_iconst (v := (-1)) hC.1 hC.2.1 dX8_costOfThing_20 (by decide) ?_
      exact mm_iret hC hr hlk hM h dX8_costOfThing_21
set_option maxHeartbeats 4000000 in
set_option maxRecDepth 100000 in
theorem qX8_sheetsThere_24 {p : Program} {l : Launch} {e : Env} {s : State} {m : MethodId} {args : Array Value} {below : List Frame} {meth : Method} {c : Code} {G : Gt} {b0 : Nat} (hC : CallFix p m c cX8_sheetsThere 3 s args lw_g RX8) (hr : meth.sig.returnType = (some .int)) (hlk : meth.locks = false) {K : Int32 → St → Prop} {B4 : Nat → Int32 → Int32 → St → Prop} (hB4 : ∀ (x0 : Nat) (x1 : Int32) (x2 : Int32) (S : St) (H : Heap) (locs : List Loc) (ls : Array Slot), B4 x0 x1 x2 S → MM G b0 s S H locs → lv_has ls 3 [(0, .ref (b0 + x0)), (1, .int x1), (2, .int x2)] → W p l e rmX8_sheetsThere s m args below meth c H locs 0 0 (MQ below (va_Qi K (ME G b0) (AB b0)) args s 0 0 (AB b0)) (F0 m 4 ls [])) : ∀ (x0 : Nat) (x1 : Int32) (x2 : Int32) (S : St) (H : Heap) (locs : List Loc) (ls : Array Slot), wX8_sheetsThere_24 K B4 x0 x1 x2 S → MM G b0 s S H locs → lv_has ls 3 [(0, .ref (b0 + x0)), (1, .int x1), (2, .int x2)] → W p l e rmX8_sheetsThere s m args below meth c H locs 0 0 (MQ below (va_Qi K (ME G b0) (AB b0)) args s 0 0 (AB b0)) (F0 m 24 ls []) := by
  intro x0 x1 x2 S H locs ls h hM hl
  unfold wX8_sheetsThere_24 at h
  obtain ⟨x2_1, ex2_1⟩ : ∃ y : Int32, y = x2 + 1 := ⟨_, rfl⟩
  have h := h x2_1 ex2_1
  refine lv_iinc (v := x2_1) (lv' := [(2, .int x2_1), (0, .ref (b0 + x0)), (1, .int x1)]) hC.1 hC.2.1 dX8_sheetsThere_24 hl (k := 2) rfl (by rw [ex2_1]; rfl) (by decide) rfl (fun ls hl => ?_)
  refine lv_goto (tgt := 4) hC.1 hC.2.1 dX8_sheetsThere_27 (by decide) ?_
  exact hB4 _ _ _ _ H locs ls h hM (lv_sub hl [1, 2, 0] rfl)
set_option maxHeartbeats 4000000 in
set_option maxRecDepth 100000 in
theorem qX8_sheetsThere_4 {p : Program} {l : Launch} {e : Env} {s : State} {m : MethodId} {args : Array Value} {below : List Frame} {meth : Method} {c : Code} {G : Gt} {b0 : Nat} (hC : CallFix p m c cX8_sheetsThere 3 s args lw_g RX8) (hr : meth.sig.returnType = (some .int)) (hlk : meth.locks = false) {K : Int32 → St → Prop} : ∀ (n : Nat) (x0 : Nat) (x1 : Int32) (x2 : Int32) (S : St) (H : Heap) (locs : List Loc) (ls : Array Slot), wX8_sheetsThere_4 K n x0 x1 x2 S → MM G b0 s S H locs → lv_has ls 3 [(0, .ref (b0 + x0)), (1, .int x1), (2, .int x2)] → W p l e rmX8_sheetsThere s m args below meth c H locs 0 0 (MQ below (va_Qi K (ME G b0) (AB b0)) args s 0 0 (AB b0)) (F0 m 4 ls []) := by
  intro n
  induction n with
  | zero =>
    intro x0 x1 x2 S H locs ls h
    exact False.elim h
  | succ n ih =>
    intro x0 x1 x2 S H locs ls h hM hl
    rw [wX8_sheetsThere_4] at h
    refine lv_iload_n hC.1 hC.2.1 dX8_sheetsThere_4 rfl (lv_at hl 2 rfl) ?_
    refine lv_iconst (v := 4) hC.1 hC.2.1 dX8_sheetsThere_5 (by decide) ?_
    refine lv_icmp_ge (tgt := 30) hC.1 hC.2.1 dX8_sheetsThere_6 (by decide) (fun c_2 => ?_) (fun c_2 => ?_)
    · have h := h.1 c_2
      refine lv_iload_n hC.1 hC.2.1 dX8_sheetsThere_30 rfl (lv_at hl 1 rfl) ?_
      exact mm_iret hC hr hlk hM h dX8_sheetsThere_31
    · have h := h.2 c_2
      refine lv_aload_n hC.1 hC.2.1 dX8_sheetsThere_9 rfl (lv_at hl 0 rfl) ?_
      obtain ⟨ok_3, h⟩ := h
      refine mm_gr hC hM (ci := 8) (j := 2) ok_3 rfl (by decide) (by decide) tw_304 rfl dX8_sheetsThere_10 ?_
      refine lv_iload_n hC.1 hC.2.1 dX8_sheetsThere_13 rfl (lv_at hl 2 rfl) ?_
      obtain ⟨ok_4, h⟩ := h
      refine mm_al hC hM (t0 := 3) ok_4 (by decide) rfl rfl dX8_sheetsThere_14 ?_
      obtain ⟨ok_7, h⟩ := h
      refine mm_ri hM (mm_V (As := []) (rest := []) hC hM hl.1 (mX4_isMissing l G b0 S (sR S (sR S x0 2) (x2 : Int32).toNatClampNeg) _) h (ci := 4) ok_7 rfl rfl kX4_isMissing tw_405 rfl (by decide) rfl (Nat.le_of_ble_eq_true rfl) dX8_sheetsThere_15 (by decide)) (fun r_6 S_5 H locs h hM => ?_)
      refine lv_if_ne (tgt := 24) hC.1 hC.2.1 dX8_sheetsThere_18 (by decide) (fun c_8 => ?_) (fun c_8 => ?_)
      · have h := h.2 c_8
        exact qX8_sheetsThere_24 hC hr hlk ih _ _ _ _ H locs ls h hM (lv_sub hl [0, 1, 2] rfl)
      · have h := h.1 c_8
        obtain ⟨x1_9, ex1_9⟩ : ∃ y : Int32, y = x1 + 1 := ⟨_, rfl⟩
        have h := h x1_9 ex1_9
        refine lv_iinc (v := x1_9) (lv' := [(1, .int x1_9), (0, .ref (b0 + x0)), (2, .int x2)]) hC.1 hC.2.1 dX8_sheetsThere_21 hl (k := 1) rfl (by rw [ex1_9]; rfl) (by decide) rfl (fun ls hl => ?_)
        exact qX8_sheetsThere_24 hC hr hlk ih _ _ _ _ H locs ls h hM (lv_sub hl [1, 0, 2] rfl)
set_option maxHeartbeats 4000000 in
set_option maxRecDepth 100000 in
theorem mX8_sheetsThere (l : Launch) (G : Gt) (b0 : Nat) (S : St) (o : Nat) (K : Int32 → St → Prop) : CI l G b0 S yX8_sheetsThere cX8_sheetsThere 3 (some .int) rmX8_sheetsThere [.ref (b0 + o)] (wX8_sheetsThere S o K) K := by
  refine met_of (by decide) (Nat.le_of_ble_eq_true rfl) rfl ?_
  intro p e s m below meth c hC hr hlk hin h H locs ls hM hl
  unfold wX8_sheetsThere at h
  refine lv_iconst (v := 0) hC.1 hC.2.1 dX8_sheetsThere_0 (by decide) ?_
  refine lv_istore_n (lv' := [(1, .int 0), (0, .ref (b0 + o))]) hC.1 hC.2.1 dX8_sheetsThere_1 rfl hl (by decide) rfl (fun ls hl => ?_)
  refine lv_iconst (v := 0) hC.1 hC.2.1 dX8_sheetsThere_2 (by decide) ?_
  refine lv_istore_n (lv' := [(2, .int 0), (1, .int 0), (0, .ref (b0 + o))]) hC.1 hC.2.1 dX8_sheetsThere_3 rfl hl (by decide) rfl (fun ls hl => ?_)
  obtain ⟨n1, h⟩ := h
  exact qX8_sheetsThere_4 hC hr hlk n1 _ _ _ _ H locs ls h hM (lv_sub hl [2, 1, 0] rfl)
set_option maxHeartbeats 4000000 in
set_option maxRecDepth 100000 in
theorem mX8_count (l : Launch) (G : Gt) (b0 : Nat) (S : St) (o : Nat) (x1 : Int32) (K : Int32 → St → Prop) : CI l G b0 S yX8_count cX8_count 2 (some .int) rmX8_count [.ref (b0 + o), .int x1] (wX8_count S o x1 K) K := by
  refine met_of (by decide) (Nat.le_of_ble_eq_true rfl) rfl ?_
  intro p e s m below meth c hC hr hlk hin h H locs ls hM hl
  unfold wX8_count at h
  refine lv_iload_n hC.1 hC.2.1 dX8_count_0 rfl (lv_at hl 1 rfl) ?_
  refine mm_sw (lo := 0) (hi := 5) hC.1 hC.2.1 dX8_count_1 (by decide) (fun c_1 => ?_) ?_
  · have h := h.1 c_1
    refine ⟨88, by decide, ?_⟩
    refine lv_iconst (v := (-1)) hC.1 hC.2.1 dX8_count_88 (by decide) ?_
    exact mm_iret hC hr hlk hM h dX8_count_89
  · intro i hi
    match i, hi with
    | 0, _ =>
      intro c_1
      have h := h.2.1 (c_1.trans (by decide))
      refine ⟨40, by decide, ?_⟩
      refine lv_aload_n hC.1 hC.2.1 dX8_count_40 rfl (lv_at hl 0 rfl) ?_
      obtain ⟨ok_2, h⟩ := h
      refine mm_gr hC hM (ci := 8) (j := 0) ok_2 rfl (by decide) (by decide) tw_302 rfl dX8_count_41 ?_
      obtain ⟨ok_3, h⟩ := h
      refine mm_gi hC hM (ci := 0) (j := 0) ok_3 rfl (by decide) (by decide) tw_32 rfl dX8_count_44 ?_
      exact mm_iret hC hr hlk hM h dX8_count_47
    | 1, _ =>
      intro c_1
      have h := h.2.2.1 (c_1.trans (by decide))
      refine ⟨48, by decide, ?_⟩
      refine lv_aload_n hC.1 hC.2.1 dX8_count_48 rfl (lv_at hl 0 rfl) ?_
      obtain ⟨ok_4, h⟩ := h
      refine mm_gr hC hM (ci := 8) (j := 1) ok_4 rfl (by decide) (by decide) tw_303 rfl dX8_count_49 ?_
      obtain ⟨ok_5, h⟩ := h
      refine mm_gi hC hM (ci := 3) (j := 0) ok_5 rfl (by decide) (by decide) tw_93 rfl dX8_count_52 ?_
      exact mm_iret hC hr hlk hM h dX8_count_55
    | 2, _ =>
      intro c_1
      have h := h.2.2.2.1 (c_1.trans (by decide))
      refine ⟨56, by decide, ?_⟩
      refine lv_aload_n hC.1 hC.2.1 dX8_count_56 rfl (lv_at hl 0 rfl) ?_
      obtain ⟨ok_6, h⟩ := h
      refine mm_gr hC hM (ci := 8) (j := 0) ok_6 rfl (by decide) (by decide) tw_302 rfl dX8_count_57 ?_
      obtain ⟨ok_7, h⟩ := h
      refine mm_gi hC hM (ci := 0) (j := 3) ok_7 rfl (by decide) (by decide) tw_41 rfl dX8_count_60 ?_
      refine mm_ri hM (mm_S (As := [.int (sI S (sR S o 0) 3)]) (rest := []) hC hM hl.1 (mJ6_bitCount_0f7a4 l G b0 S (sI S (sR S o 0) 3) _) h kJ6_bitCount_0f7a4 tw_430 rfl (by decide) rfl (Nat.le_of_ble_eq_true rfl) dX8_count_63 (by decide)) (fun r_9 S_8 H locs h hM => ?_)
      exact mm_iret hC hr hlk hM h dX8_count_66
    | 3, _ =>
      intro c_1
      have h := h.2.2.2.2.1 (c_1.trans (by decide))
      refine ⟨67, by decide, ?_⟩
      refine lv_aload_n hC.1 hC.2.1 dX8_count_67 rfl (lv_at hl 0 rfl) ?_
      obtain ⟨ok_10, h⟩ := h
      refine mm_gr hC hM (ci := 8) (j := 0) ok_10 rfl (by decide) (by decide) tw_302 rfl dX8_count_68 ?_
      obtain ⟨ok_11, h⟩ := h
      refine mm_gi hC hM (ci := 0) (j := 1) ok_11 rfl (by decide) (by decide) tw_37 rfl dX8_count_71 ?_
      exact mm_iret hC hr hlk hM h dX8_count_74
    | 4, _ =>
      intro c_1
      have h := h.2.2.2.2.2.1 (c_1.trans (by decide))
      refine ⟨75, by decide, ?_⟩
      refine lv_aload_n hC.1 hC.2.1 dX8_count_75 rfl (lv_at hl 0 rfl) ?_
      obtain ⟨ok_12, h⟩ := h
      refine mm_gr hC hM (ci := 8) (j := 0) ok_12 rfl (by decide) (by decide) tw_302 rfl dX8_count_76 ?_
      obtain ⟨ok_13, h⟩ := h
      refine mm_gi hC hM (ci := 0) (j := 2) ok_13 rfl (by decide) (by decide) tw_39 rfl dX8_count_79 ?_
      exact mm_iret hC hr hlk hM h dX8_count_82
    | 5, _ =>
      intro c_1
      have h := h.2.2.2.2.2.2 (c_1.trans (by decide))
      refine ⟨83, by decide, ?_⟩
      refine lv_aload_n hC.1 hC.2.1 dX8_count_83 rfl (lv_at hl 0 rfl) ?_
      obtain ⟨ok_16, h⟩ := h
      refine mm_ri hM (mm_V (As := []) (rest := []) hC hM hl.1 (mX8_sheetsThere l G b0 S o _) h (ci := 8) ok_16 rfl rfl kX8_sheetsThere tw_444 rfl (by decide) rfl (Nat.le_of_ble_eq_true rfl) dX8_count_84 (by decide)) (fun r_15 S_14 H locs h hM => ?_)
      exact mm_iret hC hr hlk hM h dX8_count_87
    | q + 6, hi => exact absurd hi (by simp)
set_option maxHeartbeats 4000000 in
set_option maxRecDepth 100000 in
theorem mX8_dearest (l : Launch) (G : Gt) (b0 : Nat) (S : St) (o : Nat) (x1 : Int32) (x2 : Int32) (K : Int32 → St → Prop) : CI l G b0 S yX8_dearest cX8_dearest 3 (some .int) rmX8_dearest [.ref (b0 + o), .int x1, .int x2] (wX8_dearest S o x1 x2 K) K := by
  refine met_of (by decide) (Nat.le_of_ble_eq_true rfl) rfl ?_
  intro p e s m below meth c hC hr hlk hin h H locs ls hM hl
  unfold wX8_dearest at h
  refine lv_aload_n hC.1 hC.2.1 dX8_dearest_0 rfl (lv_at hl 0 rfl) ?_
  obtain ⟨ok_1, h⟩ := h
  refine mm_gr hC hM (ci := 8) (j := 1) ok_1 rfl (by decide) (by decide) tw_303 rfl dX8_dearest_1 ?_
  refine lv_iload_n hC.1 hC.2.1 dX8_dearest_4 rfl (lv_at hl 1 rfl) ?_
  obtain ⟨ok_4, h⟩ := h
  refine mm_ri hM (mm_V (As := [.int x1]) (rest := []) hC hM hl.1 (mX3_has l G b0 S (sR S o 1) x1 _) h (ci := 3) ok_4 rfl rfl kX3_has tw_452 rfl (by decide) rfl (Nat.le_of_ble_eq_true rfl) dX8_dearest_5 (by decide)) (fun r_3 S_2 H locs h hM => ?_)
  refine lv_if_eq (tgt := 18) hC.1 hC.2.1 dX8_dearest_8 (by decide) (fun c_5 => ?_) (fun c_5 => ?_)
  · have h := h.1 c_5
    refine lv_iconst (v := (-1)) hC.1 hC.2.1 dX8_dearest_18 (by decide) ?_
    exact mm_iret hC hr hlk hM h dX8_dearest_19
  · have h := h.2 c_5
    refine lv_iload_n hC.1 hC.2.1 dX8_dearest_11 rfl (lv_at hl 2 rfl) ?_
    refine mm_ri hM (mm_S (As := [.int x2]) (rest := []) hC hM hl.1 (mX8_isFew l G b0 S_2 x2 _) h kX8_isFew tw_572 rfl (by decide) rfl (Nat.le_of_ble_eq_true rfl) dX8_dearest_12 (by decide)) (fun r_7 S_6 H locs h hM => ?_)
    refine lv_if_ne (tgt := 20) hC.1 hC.2.1 dX8_dearest_15 (by decide) (fun c_8 => ?_) (fun c_8 => ?_)
    · have h := h.2 c_8
      refine lv_aload_n hC.1 hC.2.1 dX8_dearest_20 rfl (lv_at hl 0 rfl) ?_
      obtain ⟨ok_9, h⟩ := h
      refine mm_gr hC hM (ci := 8) (j := 5) ok_9 rfl (by decide) (by decide) tw_307 rfl dX8_dearest_21 ?_
      refine lv_iload_n hC.1 hC.2.1 dX8_dearest_24 rfl (lv_at hl 1 rfl) ?_
      refine lv_iload_n hC.1 hC.2.1 dX8_dearest_25 rfl (lv_at hl 2 rfl) ?_
      obtain ⟨ok_12, h⟩ := h
      refine mm_ri hM (mm_V (As := [.int x1, .int x2]) (rest := []) hC hM hl.1 (mX1_dearestCost l G b0 S_6 (sR S_6 o 5) x1 x2 _) h (ci := 1) ok_12 rfl rfl kX1_dearestCost tw_575 rfl (by decide) rfl (Nat.le_of_ble_eq_true rfl) dX8_dearest_26 (by decide)) (fun r_11 S_10 H locs h hM => ?_)
      exact mm_iret hC hr hlk hM h dX8_dearest_29
    · have h := h.1 c_8
      refine lv_iconst (v := (-1)) hC.1 hC.2.1 dX8_dearest_18 (by decide) ?_
      exact mm_iret hC hr hlk hM h dX8_dearest_19
set_option maxHeartbeats 4000000 in
set_option maxRecDepth 100000 in
theorem mX8_isThing (l : Launch) (G : Gt) (b0 : Nat) (S : St) (o : Nat) (x1 : Int32) (K : Int32 → St → Prop) : CI l G b0 S yX8_isThing cX8_isThing 2 (some .boolean) rmX8_isThing [.ref (b0 + o), .int x1] (wX8_isThing S o x1 K) K := by
  refine met_of (by decide) (Nat.le_of_ble_eq_true rfl) rfl ?_
  intro p e s m below meth c hC hr hlk hin h H locs ls hM hl
  unfold wX8_isThing at h
  refine lv_iload_n hC.1 hC.2.1 dX8_isThing_0 rfl (lv_at hl 1 rfl) ?_
  refine lv_aload_n hC.1 hC.2.1 dX8_isThing_1 rfl (lv_at hl 0 rfl) ?_
  obtain ⟨ok_1, h⟩ := h
  refine mm_gr hC hM (ci := 8) (j := 0) ok_1 rfl (by decide) (by decide) tw_302 rfl dX8_isThing_2 ?_
  obtain ⟨ok_2, h⟩ := h
  refine mm_gi hC hM (ci := 0) (j := 0) ok_2 rfl (by decide) (by decide) tw_32 rfl dX8_isThing_5 ?_
  refine mm_ri hM (mm_S (As := [.int x1, .int (sI S (sR S o 0) 0)]) (rest := []) hC hM hl.1 (mX8_isWithin l G b0 S x1 (sI S (sR S o 0) 0) _) h kX8_isWithin tw_367 rfl (by decide) rfl (Nat.le_of_ble_eq_true rfl) dX8_isThing_8 (by decide)) (fun r_4 S_3 H locs h hM => ?_)
  obtain ⟨nb_5, h⟩ := h
  exact mm_zret hC hr hlk hM nb_5 h dX8_isThing_11
set_option maxHeartbeats 4000000 in
set_option maxRecDepth 100000 in
theorem mX8_ends (l : Launch) (G : Gt) (b0 : Nat) (S : St) (o : Nat) (x1 : Int32) (x2 : Int32) (x3 : Int32) (K : Int32 → St → Prop) : CI l G b0 S yX8_ends cX8_ends 4 (some .int) rmX8_ends [.ref (b0 + o), .int x1, .int x2, .int x3] (wX8_ends S o x1 x2 x3 K) K := by
  refine met_of (by decide) (Nat.le_of_ble_eq_true rfl) rfl ?_
  intro p e s m below meth c hC hr hlk hin h H locs ls hM hl
  unfold wX8_ends at h
  refine lv_iload_n hC.1 hC.2.1 dX8_ends_0 rfl (lv_at hl 2 rfl) ?_
  refine lv_iload_n hC.1 hC.2.1 dX8_ends_1 rfl (lv_at hl 3 rfl) ?_
  refine mm_ri hM (mm_S (As := [.int x2, .int x3]) (rest := []) hC hM hl.1 (mX8_areEnds l G b0 S x2 x3 _) h kX8_areEnds tw_337 rfl (by decide) rfl (Nat.le_of_ble_eq_true rfl) dX8_ends_2 (by decide)) (fun r_2 S_1 H locs h hM => ?_)
  refine lv_if_ne (tgt := 14) hC.1 hC.2.1 dX8_ends_5 (by decide) (fun c_3 => ?_) (fun c_3 => ?_)
  · have h := h.2 c_3
    refine lv_aload_n hC.1 hC.2.1 dX8_ends_14 rfl (lv_at hl 0 rfl) ?_
    refine lv_iload_n hC.1 hC.2.1 dX8_ends_15 rfl (lv_at hl 1 rfl) ?_
    obtain ⟨ok_6, h⟩ := h
    refine mm_ri hM (mm_V (As := [.int x1]) (rest := []) hC hM hl.1 (mX8_isThing l G b0 S_1 o x1 _) h (ci := 8) ok_6 rfl rfl kX8_isThing tw_363 rfl (by decide) rfl (Nat.le_of_ble_eq_true rfl) dX8_ends_16 (by decide)) (fun r_5 S_4 H locs h hM => ?_)
    refine lv_if_ne (tgt := 29) hC.1 hC.2.1 dX8_ends_19 (by decide) (fun c_7 => ?_) (fun c_7 => ?_)
    · have h := h.2 c_7
      refine lv_aload_n hC.1 hC.2.1 dX8_ends_29 rfl (lv_at hl 0 rfl) ?_
      obtain ⟨ok_8, h⟩ := h
      refine mm_gr hC hM (ci := 8) (j := 0) ok_8 rfl (by decide) (by decide) tw_302 rfl dX8_ends_30 ?_
      obtain ⟨ok_9, h⟩ := h
      refine mm_gr hC hM (ci := 0) (j := 4) ok_9 rfl (by decide) (by decide) tw_43 rfl dX8_ends_33 ?_
      refine lv_iload_n hC.1 hC.2.1 dX8_ends_36 rfl (lv_at hl 1 rfl) ?_
      refine lv_iload_n hC.1 hC.2.1 dX8_ends_37 rfl (lv_at hl 2 rfl) ?_
      obtain ⟨ok_10, h⟩ := h
      refine mm_is hC hM ok_10 dX8_ends_38 (fun S_11 H locs eS_11 hM => ?_)
      have h := h S_11 eS_11
      refine lv_aload_n hC.1 hC.2.1 dX8_ends_39 rfl (lv_at hl 0 rfl) ?_
      obtain ⟨ok_12, h⟩ := h
      refine mm_gr hC hM (ci := 8) (j := 0) ok_12 rfl (by decide) (by decide) tw_302 rfl dX8_ends_40 ?_
      obtain ⟨ok_13, h⟩ := h
      refine mm_gr hC hM (ci := 0) (j := 5) ok_13 rfl (by decide) (by decide) tw_46 rfl dX8_ends_43 ?_
      refine lv_iload_n hC.1 hC.2.1 dX8_ends_46 rfl (lv_at hl 1 rfl) ?_
      refine lv_iload_n hC.1 hC.2.1 dX8_ends_47 rfl (lv_at hl 3 rfl) ?_
      obtain ⟨ok_14, h⟩ := h
      refine mm_is hC hM ok_14 dX8_ends_48 (fun S_15 H locs eS_15 hM => ?_)
      have h := h S_15 eS_15
      refine lv_aload_n hC.1 hC.2.1 dX8_ends_49 rfl (lv_at hl 0 rfl) ?_
      refine lv_iconst (v := 0) hC.1 hC.2.1 dX8_ends_50 (by decide) ?_
      obtain ⟨ok_18, h⟩ := h
      refine mm_ri hM (mm_V (As := [.int 0]) (rest := []) hC hM hl.1 (mX8_accepted l G b0 S_15 o 0 _) h (ci := 8) ok_18 rfl rfl kX8_accepted tw_351 rfl (by decide) rfl (Nat.le_of_ble_eq_true rfl) dX8_ends_51 (by decide)) (fun r_17 S_16 H locs h hM => ?_)
      exact mm_iret hC hr hlk hM h dX8_ends_54
    · have h := h.1 c_7
      refine lv_aload_n hC.1 hC.2.1 dX8_ends_22 rfl (lv_at hl 0 rfl) ?_
      refine lv_bipush (v := (-2)) hC.1 hC.2.1 dX8_ends_23 (by decide) ?_
      obtain ⟨ok_21, h⟩ := h
      refine mm_ri hM (mm_V (As := [.int (-2)]) (rest := []) hC hM hl.1 (mX8_refused l G b0 S_4 o (-2) _) h (ci := 8) ok_21 rfl rfl kX8_refused tw_343 rfl (by decide) rfl (Nat.le_of_ble_eq_true rfl) dX8_ends_25 (by decide)) (fun r_20 S_19 H locs h hM => ?_)
      exact mm_iret hC hr hlk hM h dX8_ends_28
  · have h := h.1 c_3
    refine lv_aload_n hC.1 hC.2.1 dX8_ends_8 rfl (lv_at hl 0 rfl) ?_
    refine lv_iconst (v := (-1)) hC.1 hC.2.1 dX8_ends_9 (by decide) ?_
    obtain ⟨ok_24, h⟩ := h
    refine mm_ri hM (mm_V (As := [.int (-1)]) (rest := []) hC hM hl.1 (mX8_refused l G b0 S_1 o (-1) _) h (ci := 8) ok_24 rfl rfl kX8_refused tw_343 rfl (by decide) rfl (Nat.le_of_ble_eq_true rfl) dX8_ends_10 (by decide)) (fun r_23 S_22 H locs h hM => ?_)
    exact mm_iret hC hr hlk hM h dX8_ends_13
set_option maxHeartbeats 4000000 in
set_option maxRecDepth 100000 in
theorem mX8_few (l : Launch) (G : Gt) (b0 : Nat) (S : St) (o : Nat) (x1 : Int32) (K : Int32 → St → Prop) : CI l G b0 S yX8_few cX8_few 2 (some .int) rmX8_few [.ref (b0 + o), .int x1] (wX8_few S o x1 K) K := by
  refine met_of (by decide) (Nat.le_of_ble_eq_true rfl) rfl ?_
  intro p e s m below meth c hC hr hlk hin h H locs ls hM hl
  unfold wX8_few at h
  refine lv_iload_n hC.1 hC.2.1 dX8_few_0 rfl (lv_at hl 1 rfl) ?_
  refine mm_ri hM (mm_S (As := [.int x1]) (rest := []) hC hM hl.1 (mX8_isFew l G b0 S x1 _) h kX8_isFew tw_572 rfl (by decide) rfl (Nat.le_of_ble_eq_true rfl) dX8_few_1 (by decide)) (fun r_2 S_1 H locs h hM => ?_)
  refine lv_if_ne (tgt := 9) hC.1 hC.2.1 dX8_few_4 (by decide) (fun c_3 => ?_) (fun c_3 => ?_)
  · have h := h.2 c_3
    refine lv_aload_n hC.1 hC.2.1 dX8_few_9 rfl (lv_at hl 0 rfl) ?_
    obtain ⟨ok_4, h⟩ := h
    refine mm_gr hC hM (ci := 8) (j := 1) ok_4 rfl (by decide) (by decide) tw_303 rfl dX8_few_10 ?_
    obtain ⟨ok_5, h⟩ := h
    refine mm_gi hC hM (ci := 3) (j := 0) ok_5 rfl (by decide) (by decide) tw_93 rfl dX8_few_13 ?_
    refine lv_if_ne (tgt := 24) hC.1 hC.2.1 dX8_few_16 (by decide) (fun c_6 => ?_) (fun c_6 => ?_)
    · have h := h.2 c_6
      refine lv_aload_n hC.1 hC.2.1 dX8_few_24 rfl (lv_at hl 0 rfl) ?_
      obtain ⟨ok_7, h⟩ := h
      refine mm_gr hC hM (ci := 8) (j := 5) ⟨ok_4.1, ok_7⟩ rfl (by decide) (by decide) tw_307 rfl dX8_few_25 ?_
      refine lv_iload_n hC.1 hC.2.1 dX8_few_28 rfl (lv_at hl 1 rfl) ?_
      obtain ⟨ok_10, h⟩ := h
      refine mm_ri hM (mm_V (As := [.int x1]) (rest := []) hC hM hl.1 (mX1_leastDear l G b0 S_1 (sR S_1 o 5) x1 _) h (ci := 1) ok_10 rfl rfl kX1_leastDear tw_591 rfl (by decide) rfl (Nat.le_of_ble_eq_true rfl) dX8_few_29 (by decide)) (fun r_9 S_8 H locs h hM => ?_)
      exact mm_iret hC hr hlk hM h dX8_few_32
    · have h := h.1 c_6
      refine lv_bipush (v := (-6)) hC.1 hC.2.1 dX8_few_19 (by decide) ?_
      refine lv_goto (tgt := 32) hC.1 hC.2.1 dX8_few_21 (by decide) ?_
      exact mm_iret hC hr hlk hM h dX8_few_32
  · have h := h.1 c_3
    refine lv_iconst (v := (-1)) hC.1 hC.2.1 dX8_few_7 (by decide) ?_
    exact mm_iret hC hr hlk hM h dX8_few_8
set_option maxHeartbeats 4000000 in
set_option maxRecDepth 100000 in
theorem qX8_find_2 {p : Program} {l : Launch} {e : Env} {s : State} {m : MethodId} {args : Array Value} {below : List Frame} {meth : Method} {c : Code} {G : Gt} {b0 : Nat} (hC : CallFix p m c cX8_find 3 s args lw_g RX8) (hr : meth.sig.returnType = (some .int)) (hlk : meth.locks = false) {K : Int32 → St → Prop} : ∀ (n : Nat) (x0 : Nat) (x1 : Int32) (x2 : Int32) (S : St) (H : Heap) (locs : List Loc) (ls : Array Slot), wX8_find_2 K n x0 x1 x2 S → MM G b0 s S H locs → lv_has ls 3 [(0, .ref (b0 + x0)), (1, .int x1), (2, .int x2)] → W p l e rmX8_find s m args below meth c H locs 0 0 (MQ below (va_Qi K (ME G b0) (AB b0)) args s 0 0 (AB b0)) (F0 m 2 ls []) := by
  intro n
  induction n with
  | zero =>
    intro x0 x1 x2 S H locs ls h
    exact False.elim h
  | succ n ih =>
    intro x0 x1 x2 S H locs ls h hM hl
    rw [wX8_find_2] at h
    refine lv_iload_n hC.1 hC.2.1 dX8_find_2 rfl (lv_at hl 2 rfl) ?_
    refine lv_aload_n hC.1 hC.2.1 dX8_find_3 rfl (lv_at hl 0 rfl) ?_
    obtain ⟨ok_1, h⟩ := h
    refine mm_gr hC hM (ci := 8) (j := 1) ok_1 rfl (by decide) (by decide) tw_303 rfl dX8_find_4 ?_
    obtain ⟨ok_2, h⟩ := h
    refine mm_gi hC hM (ci := 3) (j := 0) ok_2 rfl (by decide) (by decide) tw_93 rfl dX8_find_7 ?_
    refine lv_icmp_ge (tgt := 34) hC.1 hC.2.1 dX8_find_10 (by decide) (fun c_3 => ?_) (fun c_3 => ?_)
    · have h := h.1 c_3
      refine lv_iconst (v := (-1)) hC.1 hC.2.1 dX8_find_34 (by decide) ?_
      exact mm_iret hC hr hlk hM h dX8_find_35
    · have h := h.2 c_3
      refine lv_aload_n hC.1 hC.2.1 dX8_find_13 rfl (lv_at hl 0 rfl) ?_
      refine mm_gr hC hM (ci := 8) (j := 1) ok_1 rfl (by decide) (by decide) tw_303 rfl dX8_find_14 ?_
      obtain ⟨ok_4, h⟩ := h
      refine mm_gr hC hM (ci := 3) (j := 1) ⟨ok_2, ok_4⟩ rfl (by decide) (by decide) tw_99 rfl dX8_find_17 ?_
      refine lv_iload_n hC.1 hC.2.1 dX8_find_20 rfl (lv_at hl 2 rfl) ?_
      obtain ⟨ok_5, h⟩ := h
      refine mm_il hC hM ok_5 dX8_find_21 ?_
      refine lv_iload_n hC.1 hC.2.1 dX8_find_22 rfl (lv_at hl 1 rfl) ?_
      refine lv_icmp_ne (tgt := 28) hC.1 hC.2.1 dX8_find_23 (by decide) (fun c_6 => ?_) (fun c_6 => ?_)
      · have h := h.2 c_6
        obtain ⟨x2_7, ex2_7⟩ : ∃ y : Int32, y = x2 + 1 := ⟨_, rfl⟩
        have h := h x2_7 ex2_7
        refine lv_iinc (v := x2_7) (lv' := [(2, .int x2_7), (0, .ref (b0 + x0)), (1, .int x1)]) hC.1 hC.2.1 dX8_find_28 hl (k := 2) rfl (by rw [ex2_7]; rfl) (by decide) rfl (fun ls hl => ?_)
        refine lv_goto (tgt := 2) hC.1 hC.2.1 dX8_find_31 (by decide) ?_
        exact ih _ _ _ _ H locs ls h hM (lv_sub hl [1, 2, 0] rfl)
      · have h := h.1 c_6
        refine lv_iload_n hC.1 hC.2.1 dX8_find_26 rfl (lv_at hl 2 rfl) ?_
        exact mm_iret hC hr hlk hM h dX8_find_27
set_option maxHeartbeats 4000000 in
set_option maxRecDepth 100000 in
theorem mX8_find (l : Launch) (G : Gt) (b0 : Nat) (S : St) (o : Nat) (x1 : Int32) (K : Int32 → St → Prop) : CI l G b0 S yX8_find cX8_find 3 (some .int) rmX8_find [.ref (b0 + o), .int x1] (wX8_find S o x1 K) K := by
  refine met_of (by decide) (Nat.le_of_ble_eq_true rfl) rfl ?_
  intro p e s m below meth c hC hr hlk hin h H locs ls hM hl
  unfold wX8_find at h
  refine lv_iconst (v := 0) hC.1 hC.2.1 dX8_find_0 (by decide) ?_
  refine lv_istore_n (lv' := [(2, .int 0), (0, .ref (b0 + o)), (1, .int x1)]) hC.1 hC.2.1 dX8_find_1 rfl hl (by decide) rfl (fun ls hl => ?_)
  obtain ⟨n1, h⟩ := h
  exact qX8_find_2 hC hr hlk n1 _ _ _ _ H locs ls h hM (lv_sub hl [1, 2, 0] rfl)
set_option maxHeartbeats 4000000 in
set_option maxRecDepth 100000 in
theorem mX8_first (l : Launch) (G : Gt) (b0 : Nat) (S : St) (o : Nat) (K : Int32 → St → Prop) : CI l G b0 S yX8_first cX8_first 1 (some .int) rmX8_first [.ref (b0 + o)] (wX8_first S o K) K := by
  refine met_of (by decide) (Nat.le_of_ble_eq_true rfl) rfl ?_
  intro p e s m below meth c hC hr hlk hin h H locs ls hM hl
  unfold wX8_first at h
  refine lv_aload_n hC.1 hC.2.1 dX8_first_0 rfl (lv_at hl 0 rfl) ?_
  obtain ⟨ok_1, h⟩ := h
  refine mm_gr hC hM (ci := 8) (j := 0) ok_1 rfl (by decide) (by decide) tw_302 rfl dX8_first_1 ?_
  obtain ⟨ok_2, h⟩ := h
  refine mm_gi hC hM (ci := 0) (j := 3) ok_2 rfl (by decide) (by decide) tw_41 rfl dX8_first_4 ?_
  refine lv_if_ne (tgt := 13) hC.1 hC.2.1 dX8_first_7 (by decide) (fun c_3 => ?_) (fun c_3 => ?_)
  · have h := h.2 c_3
    refine lv_aload_n hC.1 hC.2.1 dX8_first_13 rfl (lv_at hl 0 rfl) ?_
    obtain ⟨ok_4, h⟩ := h
    refine mm_gr hC hM (ci := 8) (j := 1) ⟨ok_1.1, ok_4⟩ rfl (by decide) (by decide) tw_303 rfl dX8_first_14 ?_
    obtain ⟨ok_5, h⟩ := h
    refine mm_gi hC hM (ci := 3) (j := 0) ok_5 rfl (by decide) (by decide) tw_93 rfl dX8_first_17 ?_
    refine lv_if_ne (tgt := 28) hC.1 hC.2.1 dX8_first_20 (by decide) (fun c_6 => ?_) (fun c_6 => ?_)
    · have h := h.2 c_6
      refine lv_aload_n hC.1 hC.2.1 dX8_first_28 rfl (lv_at hl 0 rfl) ?_
      obtain ⟨ok_7, h⟩ := h
      refine mm_gr hC hM (ci := 8) (j := 8) ⟨ok_1.1, ok_7⟩ rfl (by decide) (by decide) tw_310 rfl dX8_first_29 ?_
      obtain ⟨ok_10, h⟩ := h
      refine mm_ri hM (mm_V (As := []) (rest := []) hC hM hl.1 (mX6_leastDearSet l G b0 S (sR S o 8) _) h (ci := 6) ok_10 rfl rfl kX6_leastDearSet tw_723 rfl (by decide) rfl (Nat.le_of_ble_eq_true rfl) dX8_first_32 (by decide)) (fun r_9 S_8 H locs h hM => ?_)
      exact mm_iret hC hr hlk hM h dX8_first_35
    · have h := h.1 c_6
      refine lv_bipush (v := (-6)) hC.1 hC.2.1 dX8_first_23 (by decide) ?_
      refine lv_goto (tgt := 35) hC.1 hC.2.1 dX8_first_25 (by decide) ?_
      exact mm_iret hC hr hlk hM h dX8_first_35
  · have h := h.1 c_3
    refine lv_bipush (v := (-2)) hC.1 hC.2.1 dX8_first_10 (by decide) ?_
    exact mm_iret hC hr hlk hM h dX8_first_12
set_option maxHeartbeats 4000000 in
set_option maxRecDepth 100000 in
theorem mX8_forget (l : Launch) (G : Gt) (b0 : Nat) (S : St) (o : Nat) (x1 : Int32) (K : Int32 → St → Prop) : CI l G b0 S yX8_forget cX8_forget 2 (some .int) rmX8_forget [.ref (b0 + o), .int x1] (wX8_forget S o x1 K) K := by
  refine met_of (by decide) (Nat.le_of_ble_eq_true rfl) rfl ?_
  intro p e s m below meth c hC hr hlk hin h H locs ls hM hl
  unfold wX8_forget at h
  refine lv_iload_n hC.1 hC.2.1 dX8_forget_0 rfl (lv_at hl 1 rfl) ?_
  refine lv_bipush (v := 8) hC.1 hC.2.1 dX8_forget_1 (by decide) ?_
  refine mm_ri hM (mm_S (As := [.int x1, .int 8]) (rest := []) hC hM hl.1 (mX8_isWithin l G b0 S x1 8 _) h kX8_isWithin tw_367 rfl (by decide) rfl (Nat.le_of_ble_eq_true rfl) dX8_forget_3 (by decide)) (fun r_2 S_1 H locs h hM => ?_)
  refine lv_if_ne (tgt := 15) hC.1 hC.2.1 dX8_forget_6 (by decide) (fun c_3 => ?_) (fun c_3 => ?_)
  · have h := h.2 c_3
    refine lv_aload_n hC.1 hC.2.1 dX8_forget_15 rfl (lv_at hl 0 rfl) ?_
    obtain ⟨ok_4, h⟩ := h
    refine mm_gr hC hM (ci := 8) (j := 0) ok_4 rfl (by decide) (by decide) tw_302 rfl dX8_forget_16 ?_
    refine lv_iload_n hC.1 hC.2.1 dX8_forget_19 rfl (lv_at hl 1 rfl) ?_
    obtain ⟨ok_7, h⟩ := h
    refine mm_ri hM (mm_V (As := [.int x1]) (rest := []) hC hM hl.1 (mX0_hasWorld l G b0 S_1 (sR S_1 o 0) x1 _) h (ci := 0) ok_7 rfl rfl kX0_hasWorld tw_435 rfl (by decide) rfl (Nat.le_of_ble_eq_true rfl) dX8_forget_20 (by decide)) (fun r_6 S_5 H locs h hM => ?_)
    refine lv_if_ne (tgt := 33) hC.1 hC.2.1 dX8_forget_23 (by decide) (fun c_8 => ?_) (fun c_8 => ?_)
    · have h := h.2 c_8
      refine lv_aload_n hC.1 hC.2.1 dX8_forget_33 rfl (lv_at hl 0 rfl) ?_
      obtain ⟨ok_9, h⟩ := h
      refine mm_gr hC hM (ci := 8) (j := 0) ok_9 rfl (by decide) (by decide) tw_302 rfl dX8_forget_34 ?_
      refine lv_dup hC.1 hC.2.1 dX8_forget_37 rfl ?_
      obtain ⟨ok_10, h⟩ := h
      refine mm_gi hC hM (ci := 0) (j := 3) ok_10 rfl (by decide) (by decide) tw_41 rfl dX8_forget_38 ?_
      refine lv_iconst (v := 1) hC.1 hC.2.1 dX8_forget_41 (by decide) ?_
      refine lv_iload_n hC.1 hC.2.1 dX8_forget_42 rfl (lv_at hl 1 rfl) ?_
      refine lv_ishl hC.1 hC.2.1 dX8_forget_43 ?_
      refine lv_iconst (v := (-1)) hC.1 hC.2.1 dX8_forget_44 (by decide) ?_
      refine lv_ixor hC.1 hC.2.1 dX8_forget_45 ?_
      refine lv_iand hC.1 hC.2.1 dX8_forget_46 ?_
      refine mm_pi hC hM (ci := 0) (j := 3) (ty := .int) ok_10 rfl (by decide) (by decide) tw_41 rfl rfl (by decide +kernel) rfl rfl dX8_forget_47 (fun S_11 H locs eS_11 hM => ?_)
      have h := h S_11 eS_11
      refine lv_aload_n hC.1 hC.2.1 dX8_forget_50 rfl (lv_at hl 0 rfl) ?_
      refine lv_iconst (v := 0) hC.1 hC.2.1 dX8_forget_51 (by decide) ?_
      obtain ⟨ok_14, h⟩ := h
      refine mm_ri hM (mm_V (As := [.int 0]) (rest := []) hC hM hl.1 (mX8_accepted l G b0 S_11 o 0 _) h (ci := 8) ok_14 rfl rfl kX8_accepted tw_351 rfl (by decide) rfl (Nat.le_of_ble_eq_true rfl) dX8_forget_52 (by decide)) (fun r_13 S_12 H locs h hM => ?_)
      exact mm_iret hC hr hlk hM h dX8_forget_55
    · have h := h.1 c_8
      refine lv_aload_n hC.1 hC.2.1 dX8_forget_26 rfl (lv_at hl 0 rfl) ?_
      refine lv_bipush (v := (-2)) hC.1 hC.2.1 dX8_forget_27 (by decide) ?_
      obtain ⟨ok_17, h⟩ := h
      refine mm_ri hM (mm_V (As := [.int (-2)]) (rest := []) hC hM hl.1 (mX8_refused l G b0 S_5 o (-2) _) h (ci := 8) ok_17 rfl rfl kX8_refused tw_343 rfl (by decide) rfl (Nat.le_of_ble_eq_true rfl) dX8_forget_29 (by decide)) (fun r_16 S_15 H locs h hM => ?_)
      exact mm_iret hC hr hlk hM h dX8_forget_32
  · have h := h.1 c_3
    refine lv_aload_n hC.1 hC.2.1 dX8_forget_9 rfl (lv_at hl 0 rfl) ?_
    refine lv_iconst (v := (-1)) hC.1 hC.2.1 dX8_forget_10 (by decide) ?_
    obtain ⟨ok_20, h⟩ := h
    refine mm_ri hM (mm_V (As := [.int (-1)]) (rest := []) hC hM hl.1 (mX8_refused l G b0 S_1 o (-1) _) h (ci := 8) ok_20 rfl rfl kX8_refused tw_343 rfl (by decide) rfl (Nat.le_of_ble_eq_true rfl) dX8_forget_11 (by decide)) (fun r_19 S_18 H locs h hM => ?_)
    exact mm_iret hC hr hlk hM h dX8_forget_14
set_option maxHeartbeats 4000000 in
set_option maxRecDepth 100000 in
theorem mX8_front (l : Launch) (G : Gt) (b0 : Nat) (S : St) (o : Nat) (x1 : Int32) (x2 : Int32) (x3 : Int32) (K : Int32 → St → Prop) : CI l G b0 S yX8_front cX8_front 4 (some .int) rmX8_front [.ref (b0 + o), .int x1, .int x2, .int x3] (wX8_front S o x1 x2 x3 K) K := by
  refine met_of (by decide) (Nat.le_of_ble_eq_true rfl) rfl ?_
  intro p e s m below meth c hC hr hlk hin h H locs ls hM hl
  unfold wX8_front at h
  refine lv_aload_n hC.1 hC.2.1 dX8_front_0 rfl (lv_at hl 0 rfl) ?_
  obtain ⟨ok_1, h⟩ := h
  refine mm_gr hC hM (ci := 8) (j := 0) ok_1 rfl (by decide) (by decide) tw_302 rfl dX8_front_1 ?_
  refine lv_iload_n hC.1 hC.2.1 dX8_front_4 rfl (lv_at hl 1 rfl) ?_
  obtain ⟨ok_4, h⟩ := h
  refine mm_ri hM (mm_V (As := [.int x1]) (rest := []) hC hM hl.1 (mX0_hasWorld l G b0 S (sR S o 0) x1 _) h (ci := 0) ok_4 rfl rfl kX0_hasWorld tw_435 rfl (by decide) rfl (Nat.le_of_ble_eq_true rfl) dX8_front_5 (by decide)) (fun r_3 S_2 H locs h hM => ?_)
  refine lv_if_eq (tgt := 27) hC.1 hC.2.1 dX8_front_8 (by decide) (fun c_5 => ?_) (fun c_5 => ?_)
  · have h := h.1 c_5
    refine lv_iconst (v := (-1)) hC.1 hC.2.1 dX8_front_27 (by decide) ?_
    exact mm_iret hC hr hlk hM h dX8_front_28
  · have h := h.2 c_5
    refine lv_aload_n hC.1 hC.2.1 dX8_front_11 rfl (lv_at hl 0 rfl) ?_
    obtain ⟨ok_6, h⟩ := h
    refine mm_gr hC hM (ci := 8) (j := 0) ok_6 rfl (by decide) (by decide) tw_302 rfl dX8_front_12 ?_
    refine lv_iload_n hC.1 hC.2.1 dX8_front_15 rfl (lv_at hl 2 rfl) ?_
    obtain ⟨ok_9, h⟩ := h
    refine mm_ri hM (mm_V (As := [.int x2]) (rest := []) hC hM hl.1 (mX0_hasWorld l G b0 S_2 (sR S_2 o 0) x2 _) h (ci := 0) ok_9 rfl rfl kX0_hasWorld tw_435 rfl (by decide) rfl (Nat.le_of_ble_eq_true rfl) dX8_front_16 (by decide)) (fun r_8 S_7 H locs h hM => ?_)
    refine lv_if_eq (tgt := 27) hC.1 hC.2.1 dX8_front_19 (by decide) (fun c_10 => ?_) (fun c_10 => ?_)
    · have h := h.1 c_10
      refine lv_iconst (v := (-1)) hC.1 hC.2.1 dX8_front_27 (by decide) ?_
      exact mm_iret hC hr hlk hM h dX8_front_28
    · have h := h.2 c_10
      refine lv_iload_n hC.1 hC.2.1 dX8_front_22 rfl (lv_at hl 3 rfl) ?_
      refine lv_iconst (v := (-1)) hC.1 hC.2.1 dX8_front_23 (by decide) ?_
      refine lv_icmp_ge (tgt := 29) hC.1 hC.2.1 dX8_front_24 (by decide) (fun c_11 => ?_) (fun c_11 => ?_)
      · have h := h.1 c_11
        refine lv_aload_n hC.1 hC.2.1 dX8_front_29 rfl (lv_at hl 0 rfl) ?_
        obtain ⟨ok_12, h⟩ := h
        refine mm_gr hC hM (ci := 8) (j := 7) ok_12 rfl (by decide) (by decide) tw_309 rfl dX8_front_30 ?_
        refine lv_iload_n hC.1 hC.2.1 dX8_front_33 rfl (lv_at hl 1 rfl) ?_
        refine lv_iload_n hC.1 hC.2.1 dX8_front_34 rfl (lv_at hl 2 rfl) ?_
        obtain ⟨ok_15, h⟩ := h
        refine mm_rv hM (mm_V (As := [.int x1, .int x2]) (rest := []) hC hM hl.1 (mX7_look l G b0 S_7 (sR S_7 o 7) x1 x2 _) h (ci := 7) ok_15 rfl rfl kX7_look tw_648 rfl (by decide) rfl (Nat.le_of_ble_eq_true rfl) dX8_front_35 (by decide)) (fun S_13 H locs h hM => ?_)
        refine lv_iload_n hC.1 hC.2.1 dX8_front_38 rfl (lv_at hl 3 rfl) ?_
        refine lv_iconst (v := (-1)) hC.1 hC.2.1 dX8_front_39 (by decide) ?_
        refine lv_icmp_ne (tgt := 53) hC.1 hC.2.1 dX8_front_40 (by decide) (fun c_16 => ?_) (fun c_16 => ?_)
        · have h := h.2 c_16
          refine lv_aload_n hC.1 hC.2.1 dX8_front_53 rfl (lv_at hl 0 rfl) ?_
          obtain ⟨ok_17, h⟩ := h
          refine mm_gr hC hM (ci := 8) (j := 7) ok_17 rfl (by decide) (by decide) tw_309 rfl dX8_front_54 ?_
          refine lv_iload_n hC.1 hC.2.1 dX8_front_57 rfl (lv_at hl 3 rfl) ?_
          obtain ⟨ok_20, h⟩ := h
          refine mm_ri hM (mm_V (As := [.int x3]) (rest := []) hC hM hl.1 (mX7_pairOnFront l G b0 S_13 (sR S_13 o 7) x3 _) h (ci := 7) ok_20 rfl rfl kX7_pairOnFront tw_671 rfl (by decide) rfl (Nat.le_of_ble_eq_true rfl) dX8_front_58 (by decide)) (fun r_19 S_18 H locs h hM => ?_)
          exact mm_iret hC hr hlk hM h dX8_front_61
        · have h := h.1 c_16
          refine lv_aload_n hC.1 hC.2.1 dX8_front_43 rfl (lv_at hl 0 rfl) ?_
          obtain ⟨ok_21, h⟩ := h
          refine mm_gr hC hM (ci := 8) (j := 7) ok_21 rfl (by decide) (by decide) tw_309 rfl dX8_front_44 ?_
          obtain ⟨ok_24, h⟩ := h
          refine mm_ri hM (mm_V (As := []) (rest := []) hC hM hl.1 (mX7_pairsOnFront l G b0 S_13 (sR S_13 o 7) _) h (ci := 7) ok_24 rfl rfl kX7_pairsOnFront tw_659 rfl (by decide) rfl (Nat.le_of_ble_eq_true rfl) dX8_front_47 (by decide)) (fun r_23 S_22 H locs h hM => ?_)
          refine lv_goto (tgt := 61) hC.1 hC.2.1 dX8_front_50 (by decide) ?_
          exact mm_iret hC hr hlk hM h dX8_front_61
      · have h := h.2 c_11
        refine lv_iconst (v := (-1)) hC.1 hC.2.1 dX8_front_27 (by decide) ?_
        exact mm_iret hC hr hlk hM h dX8_front_28
set_option maxHeartbeats 4000000 in
set_option maxRecDepth 100000 in
theorem mX8_hold (l : Launch) (G : Gt) (b0 : Nat) (S : St) (o : Nat) (x1 : Int32) (K : Int32 → St → Prop) : CI l G b0 S yX8_hold cX8_hold 2 (some .int) rmX8_hold [.ref (b0 + o), .int x1] (wX8_hold S o x1 K) K := by
  refine met_of (by decide) (Nat.le_of_ble_eq_true rfl) rfl ?_
  intro p e s m below meth c hC hr hlk hin h H locs ls hM hl
  unfold wX8_hold at h
  refine lv_aload_n hC.1 hC.2.1 dX8_hold_0 rfl (lv_at hl 0 rfl) ?_
  refine lv_iload_n hC.1 hC.2.1 dX8_hold_1 rfl (lv_at hl 1 rfl) ?_
  obtain ⟨ok_3, h⟩ := h
  refine mm_ri hM (mm_V (As := [.int x1]) (rest := []) hC hM hl.1 (mX8_isThing l G b0 S o x1 _) h (ci := 8) ok_3 rfl rfl kX8_isThing tw_363 rfl (by decide) rfl (Nat.le_of_ble_eq_true rfl) dX8_hold_2 (by decide)) (fun r_2 S_1 H locs h hM => ?_)
  refine lv_if_eq (tgt := 19) hC.1 hC.2.1 dX8_hold_5 (by decide) (fun c_4 => ?_) (fun c_4 => ?_)
  · have h := h.1 c_4
    refine lv_iconst (v := (-1)) hC.1 hC.2.1 dX8_hold_19 (by decide) ?_
    exact mm_iret hC hr hlk hM h dX8_hold_20
  · have h := h.2 c_4
    refine lv_aload_n hC.1 hC.2.1 dX8_hold_8 rfl (lv_at hl 0 rfl) ?_
    obtain ⟨ok_5, h⟩ := h
    refine mm_gr hC hM (ci := 8) (j := 5) ok_5 rfl (by decide) (by decide) tw_307 rfl dX8_hold_9 ?_
    refine lv_iload_n hC.1 hC.2.1 dX8_hold_12 rfl (lv_at hl 1 rfl) ?_
    obtain ⟨ok_8, h⟩ := h
    refine mm_ri hM (mm_V (As := [.int x1]) (rest := []) hC hM hl.1 (mX1_howSure l G b0 S_1 (sR S_1 o 5) x1 _) h (ci := 1) ok_8 rfl rfl kX1_howSure tw_556 rfl (by decide) rfl (Nat.le_of_ble_eq_true rfl) dX8_hold_13 (by decide)) (fun r_7 S_6 H locs h hM => ?_)
    refine lv_goto (tgt := 20) hC.1 hC.2.1 dX8_hold_16 (by decide) ?_
    exact mm_iret hC hr hlk hM h dX8_hold_20
set_option maxHeartbeats 4000000 in
set_option maxRecDepth 100000 in
theorem qX8_holdsCosts_2 {p : Program} {l : Launch} {e : Env} {s : State} {m : MethodId} {args : Array Value} {below : List Frame} {meth : Method} {c : Code} {G : Gt} {b0 : Nat} (hC : CallFix p m c cX8_holdsCosts 4 s args lw_g RX8) (hr : meth.sig.returnType = (some .boolean)) (hlk : meth.locks = false) {K : Int32 → St → Prop} : ∀ (n : Nat) (x0 : Nat) (x1 : Nat) (x2 : Int32) (x3 : Int32) (S : St) (H : Heap) (locs : List Loc) (ls : Array Slot), wX8_holdsCosts_2 K n x0 x1 x2 x3 S → MM G b0 s S H locs → lv_has ls 4 [(0, .ref (b0 + x0)), (1, .ref (b0 + x1)), (2, .int x2), (3, .int x3)] → W p l e rmX8_holdsCosts s m args below meth c H locs 0 0 (MQ below (va_Qi K (ME G b0) (AB b0)) args s 0 0 (AB b0)) (F0 m 2 ls []) := by
  intro n
  induction n with
  | zero =>
    intro x0 x1 x2 x3 S H locs ls h
    exact False.elim h
  | succ n ih =>
    intro x0 x1 x2 x3 S H locs ls h hM hl
    rw [wX8_holdsCosts_2] at h
    refine lv_iload_n hC.1 hC.2.1 dX8_holdsCosts_2 rfl (lv_at hl 3 rfl) ?_
    refine lv_aload_n hC.1 hC.2.1 dX8_holdsCosts_3 rfl (lv_at hl 0 rfl) ?_
    obtain ⟨ok_1, h⟩ := h
    refine mm_gr hC hM (ci := 8) (j := 0) ok_1 rfl (by decide) (by decide) tw_302 rfl dX8_holdsCosts_4 ?_
    obtain ⟨ok_2, h⟩ := h
    refine mm_gi hC hM (ci := 0) (j := 0) ok_2 rfl (by decide) (by decide) tw_32 rfl dX8_holdsCosts_7 ?_
    refine lv_icmp_ge (tgt := 36) hC.1 hC.2.1 dX8_holdsCosts_10 (by decide) (fun c_3 => ?_) (fun c_3 => ?_)
    · have h := h.1 c_3
      refine lv_iconst (v := 1) hC.1 hC.2.1 dX8_holdsCosts_36 (by decide) ?_
      exact mm_zret hC hr hlk hM rfl h dX8_holdsCosts_37
    · have h := h.2 c_3
      refine lv_aload_n hC.1 hC.2.1 dX8_holdsCosts_13 rfl (lv_at hl 1 rfl) ?_
      refine lv_iload_n hC.1 hC.2.1 dX8_holdsCosts_14 rfl (lv_at hl 2 rfl) ?_
      refine lv_i2l hC.1 hC.2.1 dX8_holdsCosts_15 rfl ?_
      refine lv_iload_n hC.1 hC.2.1 dX8_holdsCosts_16 rfl (lv_at hl 3 rfl) ?_
      refine lv_i2l hC.1 hC.2.1 dX8_holdsCosts_17 rfl ?_
      refine lv_ladd hC.1 hC.2.1 dX8_holdsCosts_18 ?_
      obtain ⟨ok_6, h⟩ := h
      refine mm_ri hM (mm_V (As := [.long (((x2 : Int32).toInt64) + ((x3 : Int32).toInt64))]) (rest := []) hC hM hl.1 (mX4_numberAt l G b0 S x1 (((x2 : Int32).toInt64) + ((x3 : Int32).toInt64)) _) h (ci := 4) ok_6 rfl rfl kX4_numberAt tw_425 rfl (by decide) rfl (Nat.le_of_ble_eq_true rfl) dX8_holdsCosts_19 (by decide)) (fun r_5 S_4 H locs h hM => ?_)
      refine mm_ri hM (mm_S (As := [.int r_5]) (rest := []) hC hM hl.1 (mX8_isCost l G b0 S_4 r_5 _) h kX8_isCost tw_340 rfl (by decide) rfl (Nat.le_of_ble_eq_true rfl) dX8_holdsCosts_22 (by decide)) (fun r_8 S_7 H locs h hM => ?_)
      refine lv_if_ne (tgt := 30) hC.1 hC.2.1 dX8_holdsCosts_25 (by decide) (fun c_9 => ?_) (fun c_9 => ?_)
      · have h := h.2 c_9
        obtain ⟨x3_10, ex3_10⟩ : ∃ y : Int32, y = x3 + 1 := ⟨_, rfl⟩
        have h := h x3_10 ex3_10
        refine lv_iinc (v := x3_10) (lv' := [(3, .int x3_10), (0, .ref (b0 + x0)), (1, .ref (b0 + x1)), (2, .int x2)]) hC.1 hC.2.1 dX8_holdsCosts_30 hl (k := 3) rfl (by rw [ex3_10]; rfl) (by decide) rfl (fun ls hl => ?_)
        refine lv_goto (tgt := 2) hC.1 hC.2.1 dX8_holdsCosts_33 (by decide) ?_
        exact ih _ _ _ _ _ H locs ls h hM (lv_sub hl [1, 2, 3, 0] rfl)
      · have h := h.1 c_9
        refine lv_iconst (v := 0) hC.1 hC.2.1 dX8_holdsCosts_28 (by decide) ?_
        exact mm_zret hC hr hlk hM rfl h dX8_holdsCosts_29
set_option maxHeartbeats 4000000 in
set_option maxRecDepth 100000 in
theorem mX8_holdsCosts (l : Launch) (G : Gt) (b0 : Nat) (S : St) (o : Nat) (x1 : Nat) (x2 : Int32) (K : Int32 → St → Prop) : CI l G b0 S yX8_holdsCosts cX8_holdsCosts 4 (some .boolean) rmX8_holdsCosts [.ref (b0 + o), .ref (b0 + x1), .int x2] (wX8_holdsCosts S o x1 x2 K) K := by
  refine met_of (by decide) (Nat.le_of_ble_eq_true rfl) rfl ?_
  intro p e s m below meth c hC hr hlk hin h H locs ls hM hl
  unfold wX8_holdsCosts at h
  refine lv_iconst (v := 0) hC.1 hC.2.1 dX8_holdsCosts_0 (by decide) ?_
  refine lv_istore_n (lv' := [(3, .int 0), (0, .ref (b0 + o)), (1, .ref (b0 + x1)), (2, .int x2)]) hC.1 hC.2.1 dX8_holdsCosts_1 rfl hl (by decide) rfl (fun ls hl => ?_)
  obtain ⟨n1, h⟩ := h
  exact qX8_holdsCosts_2 hC hr hlk n1 _ _ _ _ _ H locs ls h hM (lv_sub hl [1, 2, 3, 0] rfl)
set_option maxHeartbeats 4000000 in
set_option maxRecDepth 100000 in
theorem mX8_image (l : Launch) (G : Gt) (b0 : Nat) (S : St) (o : Nat) (x1 : Int32) (K : Int32 → St → Prop) : CI l G b0 S yX8_image cX8_image 2 (some .int) rmX8_image [.ref (b0 + o), .int x1] (wX8_image S o x1 K) K := by
  refine met_of (by decide) (Nat.le_of_ble_eq_true rfl) rfl ?_
  intro p e s m below meth c hC hr hlk hin h H locs ls hM hl
  unfold wX8_image at h
  refine lv_iload_n hC.1 hC.2.1 dX8_image_0 rfl (lv_at hl 1 rfl) ?_
  refine lv_iconst (v := 3) hC.1 hC.2.1 dX8_image_1 (by decide) ?_
  refine mm_ri hM (mm_S (As := [.int x1, .int 3]) (rest := []) hC hM hl.1 (mX8_isWithin l G b0 S x1 3 _) h kX8_isWithin tw_367 rfl (by decide) rfl (Nat.le_of_ble_eq_true rfl) dX8_image_2 (by decide)) (fun r_2 S_1 H locs h hM => ?_)
  refine lv_if_ne (tgt := 14) hC.1 hC.2.1 dX8_image_5 (by decide) (fun c_3 => ?_) (fun c_3 => ?_)
  · have h := h.2 c_3
    refine lv_aload_n hC.1 hC.2.1 dX8_image_14 rfl (lv_at hl 0 rfl) ?_
    obtain ⟨ok_4, h⟩ := h
    refine mm_gr hC hM (ci := 8) (j := 3) ok_4 rfl (by decide) (by decide) tw_305 rfl dX8_image_15 ?_
    refine lv_iload_n hC.1 hC.2.1 dX8_image_18 rfl (lv_at hl 1 rfl) ?_
    obtain ⟨ok_5, h⟩ := h
    refine mm_al hC hM (t0 := 2) ok_5 (by decide) rfl rfl dX8_image_19 ?_
    refine lv_aload_n hC.1 hC.2.1 dX8_image_20 rfl (lv_at hl 0 rfl) ?_
    obtain ⟨ok_6, h⟩ := h
    refine mm_gr hC hM (ci := 8) (j := 0) ⟨ok_4.1, ok_6⟩ rfl (by decide) (by decide) tw_302 rfl dX8_image_21 ?_
    obtain ⟨ok_9, h⟩ := h
    refine mm_rv hM (mm_V (As := [.ref (b0 + (sR S_1 o 0))]) (rest := []) hC hM hl.1 (mX0_copyFrom l G b0 S_1 (sR S_1 (sR S_1 o 3) (x1 : Int32).toNatClampNeg) (sR S_1 o 0) _) h (ci := 0) ok_9 rfl rfl kX0_copyFrom tw_740 rfl (by decide) rfl (Nat.le_of_ble_eq_true rfl) dX8_image_24 (by decide)) (fun S_7 H locs h hM => ?_)
    refine lv_aload_n hC.1 hC.2.1 dX8_image_27 rfl (lv_at hl 0 rfl) ?_
    obtain ⟨ok_10, h⟩ := h
    refine mm_gr hC hM (ci := 8) (j := 4) ok_10 rfl (by decide) (by decide) tw_306 rfl dX8_image_28 ?_
    refine lv_iload_n hC.1 hC.2.1 dX8_image_31 rfl (lv_at hl 1 rfl) ?_
    refine lv_iconst (v := 1) hC.1 hC.2.1 dX8_image_32 (by decide) ?_
    obtain ⟨ok_11, h⟩ := h
    refine mm_zs hC hM ok_11 dX8_image_33 (fun S_12 H locs eS_12 hM => ?_)
    have h := h S_12 eS_12
    refine lv_aload_n hC.1 hC.2.1 dX8_image_34 rfl (lv_at hl 0 rfl) ?_
    refine lv_iconst (v := 0) hC.1 hC.2.1 dX8_image_35 (by decide) ?_
    obtain ⟨ok_15, h⟩ := h
    refine mm_ri hM (mm_V (As := [.int 0]) (rest := []) hC hM hl.1 (mX8_accepted l G b0 S_12 o 0 _) h (ci := 8) ok_15 rfl rfl kX8_accepted tw_351 rfl (by decide) rfl (Nat.le_of_ble_eq_true rfl) dX8_image_36 (by decide)) (fun r_14 S_13 H locs h hM => ?_)
    exact mm_iret hC hr hlk hM h dX8_image_39
  · have h := h.1 c_3
    refine lv_aload_n hC.1 hC.2.1 dX8_image_8 rfl (lv_at hl 0 rfl) ?_
    refine lv_iconst (v := (-1)) hC.1 hC.2.1 dX8_image_9 (by decide) ?_
    obtain ⟨ok_18, h⟩ := h
    refine mm_ri hM (mm_V (As := [.int (-1)]) (rest := []) hC hM hl.1 (mX8_refused l G b0 S_1 o (-1) _) h (ci := 8) ok_18 rfl rfl kX8_refused tw_343 rfl (by decide) rfl (Nat.le_of_ble_eq_true rfl) dX8_image_10 (by decide)) (fun r_17 S_16 H locs h hM => ?_)
    exact mm_iret hC hr hlk hM h dX8_image_13
set_option maxHeartbeats 4000000 in
set_option maxRecDepth 100000 in
theorem qX8_kind_26 {p : Program} {l : Launch} {e : Env} {s : State} {m : MethodId} {args : Array Value} {below : List Frame} {meth : Method} {c : Code} {G : Gt} {b0 : Nat} (hC : CallFix p m c cX8_kind 5 s args lw_g RX8) (hr : meth.sig.returnType = (some .int)) (hlk : meth.locks = false) {K : Int32 → St → Prop} : ∀ (x0 : Nat) (S : St) (H : Heap) (locs : List Loc) (ls : Array Slot), wX8_kind_26 K x0 S → MM G b0 s S H locs → lv_has ls 5 [(0, .ref (b0 + x0))] → W p l e rmX8_kind s m args below meth c H locs 0 0 (MQ below (va_Qi K (ME G b0) (AB b0)) args s 0 0 (AB b0)) (F0 m 26 ls []) := by
  intro x0 S H locs ls h hM hl
  unfold wX8_kind_26 at h
  refine lv_aload_n hC.1 hC.2.1 dX8_kind_26 rfl (lv_at hl 0 rfl) ?_
  refine lv_iconst (v := (-1)) hC.1 hC.2.1 dX8_kind_27 (by decide) ?_
  obtain ⟨ok_3, h⟩ := h
  refine mm_ri hM (mm_V (As := [.int (-1)]) (rest := []) hC hM hl.1 (mX8_refused l G b0 S x0 (-1) _) h (ci := 8) ok_3 rfl rfl kX8_refused tw_343 rfl (by decide) rfl (Nat.le_of_ble_eq_true rfl) dX8_kind_28 (by decide)) (fun r_2 S_1 H locs h hM => ?_)
  exact mm_iret hC hr hlk hM h dX8_kind_31
set_option maxHeartbeats 4000000 in
set_option maxRecDepth 100000 in
theorem mX8_kind (l : Launch) (G : Gt) (b0 : Nat) (S : St) (o : Nat) (x1 : Int32) (x2 : Int32) (K : Int32 → St → Prop) : CI l G b0 S yX8_kind cX8_kind 5 (some .int) rmX8_kind [.ref (b0 + o), .int x1, .int x2] (wX8_kind S o x1 x2 K) K := by
  refine met_of (by decide) (Nat.le_of_ble_eq_true rfl) rfl ?_
  intro p e s m below meth c hC hr hlk hin h H locs ls hM hl
  unfold wX8_kind at h
  refine lv_iload_n hC.1 hC.2.1 dX8_kind_0 rfl (lv_at hl 1 rfl) ?_
  refine lv_iconst (v := 4) hC.1 hC.2.1 dX8_kind_1 (by decide) ?_
  refine mm_ri hM (mm_S (As := [.int x1, .int 4]) (rest := []) hC hM hl.1 (mX8_isWithin l G b0 S x1 4 _) h kX8_isWithin tw_367 rfl (by decide) rfl (Nat.le_of_ble_eq_true rfl) dX8_kind_2 (by decide)) (fun r_5 S_4 H locs h hM => ?_)
  refine lv_if_eq (tgt := 26) hC.1 hC.2.1 dX8_kind_5 (by decide) (fun c_6 => ?_) (fun c_6 => ?_)
  · have h := h.1 c_6
    exact qX8_kind_26 hC hr hlk _ _ H locs ls h hM (lv_sub hl [0] rfl)
  · have h := h.2 c_6
    refine lv_iload_n hC.1 hC.2.1 dX8_kind_8 rfl (lv_at hl 2 rfl) ?_
    obtain ⟨ta_7, tb_8, za_9, zb_10, zc_11, zd_12⟩ := hM.2.2.1
    refine va_gets hC.1 hC.2.1 za_9 hM.2.2.2.2.2.2 hC.2.2.2.1 (hC.2.2.2.2 _ tw_382) (fun _ q => q) dX8_kind_9 ?_
    refine lv_iload_n hC.1 hC.2.1 dX8_kind_12 rfl (lv_at hl 1 rfl) ?_
    obtain ⟨ok_13, h⟩ := h
    refine va_ti hC.1 hC.2.1 zb_10 hM.2.2.2.2.2.2 ok_13 rfl dX8_kind_13 ?_
    refine lv_icmp_lt (tgt := 26) hC.1 hC.2.1 dX8_kind_14 (by decide) (fun c_14 => ?_) (fun c_14 => ?_)
    · have h := h.1 c_14
      exact qX8_kind_26 hC hr hlk _ _ H locs ls h hM (lv_sub hl [0] rfl)
    · have h := h.2 c_14
      refine lv_iload_n hC.1 hC.2.1 dX8_kind_17 rfl (lv_at hl 2 rfl) ?_
      obtain ⟨ta_15, tb_16, za_17, zb_18, zc_19, zd_20⟩ := hM.2.2.1
      refine va_gets hC.1 hC.2.1 zc_19 hM.2.2.2.2.2.2 hC.2.2.2.1 (hC.2.2.2.2 _ tw_384) (fun _ q => q) dX8_kind_18 ?_
      refine lv_iload_n hC.1 hC.2.1 dX8_kind_21 rfl (lv_at hl 1 rfl) ?_
      obtain ⟨ok_21, h⟩ := h
      refine va_ti hC.1 hC.2.1 zd_20 hM.2.2.2.2.2.2 ok_21 rfl dX8_kind_22 ?_
      refine lv_icmp_le (tgt := 32) hC.1 hC.2.1 dX8_kind_23 (by decide) (fun c_22 => ?_) (fun c_22 => ?_)
      · have h := h.1 c_22
        refine lv_aload_n hC.1 hC.2.1 dX8_kind_32 rfl (lv_at hl 0 rfl) ?_
        obtain ⟨ok_23, h⟩ := h
        refine mm_gr hC hM (ci := 8) (j := 0) ok_23 rfl (by decide) (by decide) tw_302 rfl dX8_kind_33 ?_
        obtain ⟨ok_24, h⟩ := h
        refine mm_gi hC hM (ci := 0) (j := 1) ok_24 rfl (by decide) (by decide) tw_37 rfl dX8_kind_36 ?_
        refine lv_topi (fun x3_25 ex3_25 => ?_)
        have h := h x3_25 ex3_25
        refine lv_istore_n (lv' := [(3, .int x3_25), (0, .ref (b0 + o)), (1, .int x1), (2, .int x2)]) hC.1 hC.2.1 dX8_kind_39 rfl hl (by decide) rfl (fun ls hl => ?_)
        refine lv_aload_n hC.1 hC.2.1 dX8_kind_40 rfl (lv_at hl 1 rfl) ?_
        refine mm_gr hC hM (ci := 8) (j := 0) ok_23 rfl (by decide) (by decide) tw_302 rfl dX8_kind_41 ?_
        refine mm_gi hC hM (ci := 0) (j := 2) ok_24 rfl (by decide) (by decide) tw_39 rfl dX8_kind_44 ?_
        refine lv_topi (fun x4_26 ex4_26 => ?_)
        have h := h x4_26 ex4_26
        refine lv_istore (lv' := [(4, .int x4_26), (3, .int x3_25), (0, .ref (b0 + o)), (1, .int x1), (2, .int x2)]) hC.1 hC.2.1 dX8_kind_47 hl (by decide) rfl (fun ls hl => ?_)
        refine lv_aload_n hC.1 hC.2.1 dX8_kind_49 rfl (lv_at hl 2 rfl) ?_
        refine mm_gr hC hM (ci := 8) (j := 0) ok_23 rfl (by decide) (by decide) tw_302 rfl dX8_kind_50 ?_
        refine lv_iload_n hC.1 hC.2.1 dX8_kind_53 rfl (lv_at hl 3 rfl) ?_
        refine mm_pi hC hM (ci := 0) (j := 1) (ty := .int) ok_24 rfl (by decide) (by decide) tw_37 rfl rfl (by decide +kernel) rfl rfl dX8_kind_54 (fun S_27 H locs eS_27 hM => ?_)
        have h := h S_27 eS_27
        refine lv_aload_n hC.1 hC.2.1 dX8_kind_57 rfl (lv_at hl 2 rfl) ?_
        obtain ⟨ok_28, h⟩ := h
        refine mm_gr hC hM (ci := 8) (j := 0) ok_28 rfl (by decide) (by decide) tw_302 rfl dX8_kind_58 ?_
        refine lv_iload_n hC.1 hC.2.1 dX8_kind_61 rfl (lv_at hl 4 rfl) ?_
        obtain ⟨ok_29, h⟩ := h
        refine mm_pi hC hM (ci := 0) (j := 2) (ty := .int) ok_29 rfl (by decide) (by decide) tw_39 rfl rfl (by decide +kernel) rfl rfl dX8_kind_62 (fun S_30 H locs eS_30 hM => ?_)
        have h := h S_30 eS_30
        refine lv_aload_n hC.1 hC.2.1 dX8_kind_65 rfl (lv_at hl 2 rfl) ?_
        obtain ⟨ok_31, h⟩ := h
        refine mm_gr hC hM (ci := 8) (j := 1) ok_31 rfl (by decide) (by decide) tw_303 rfl dX8_kind_66 ?_
        refine lv_aload_n hC.1 hC.2.1 dX8_kind_69 rfl (lv_at hl 2 rfl) ?_
        obtain ⟨ok_32, h⟩ := h
        refine mm_gr hC hM (ci := 8) (j := 0) ⟨ok_31.1, ok_32⟩ rfl (by decide) (by decide) tw_302 rfl dX8_kind_70 ?_
        obtain ⟨ok_35, h⟩ := h
        refine mm_ri hM (mm_V (As := [.ref (b0 + (sR S_30 o 0))]) (rest := []) hC hM hl.1 (mX3_relist l G b0 S_30 (sR S_30 o 1) (sR S_30 o 0) _) h (ci := 3) ok_35 rfl rfl kX3_relist tw_108 rfl (by decide) rfl (Nat.le_of_ble_eq_true rfl) dX8_kind_73 (by decide)) (fun r_34 S_33 H locs h hM => ?_)
        refine lv_if_ne (tgt := 103) hC.1 hC.2.1 dX8_kind_76 (by decide) (fun c_36 => ?_) (fun c_36 => ?_)
        · have h := h.2 c_36
          refine lv_aload_n hC.1 hC.2.1 dX8_kind_103 rfl (lv_at hl 2 rfl) ?_
          refine lv_aload_n hC.1 hC.2.1 dX8_kind_104 rfl (lv_at hl 2 rfl) ?_
          obtain ⟨ok_37, h⟩ := h
          refine mm_gr hC hM (ci := 8) (j := 1) ok_37 rfl (by decide) (by decide) tw_303 rfl dX8_kind_105 ?_
          obtain ⟨ok_38, h⟩ := h
          refine mm_gi hC hM (ci := 3) (j := 0) ok_38 rfl (by decide) (by decide) tw_93 rfl dX8_kind_108 ?_
          refine mm_ri hM (mm_V (As := [.int (sI S_33 (sR S_33 o 1) 0)]) (rest := []) hC hM hl.1 (mX8_accepted l G b0 S_33 o (sI S_33 (sR S_33 o 1) 0) _) h (ci := 8) ok_37.1 rfl rfl kX8_accepted tw_351 rfl (by decide) rfl (Nat.le_of_ble_eq_true rfl) dX8_kind_111 (by decide)) (fun r_40 S_39 H locs h hM => ?_)
          exact mm_iret hC hr hlk hM h dX8_kind_114
        · have h := h.1 c_36
          refine lv_aload_n hC.1 hC.2.1 dX8_kind_79 rfl (lv_at hl 2 rfl) ?_
          obtain ⟨ok_41, h⟩ := h
          refine mm_gr hC hM (ci := 8) (j := 0) ok_41 rfl (by decide) (by decide) tw_302 rfl dX8_kind_80 ?_
          refine lv_iload_n hC.1 hC.2.1 dX8_kind_83 rfl (lv_at hl 1 rfl) ?_
          obtain ⟨ok_42, h⟩ := h
          refine mm_pi hC hM (ci := 0) (j := 1) (ty := .int) ok_42 rfl (by decide) (by decide) tw_37 rfl rfl (by decide +kernel) rfl rfl dX8_kind_84 (fun S_43 H locs eS_43 hM => ?_)
          have h := h S_43 eS_43
          refine lv_aload_n hC.1 hC.2.1 dX8_kind_87 rfl (lv_at hl 2 rfl) ?_
          obtain ⟨ok_44, h⟩ := h
          refine mm_gr hC hM (ci := 8) (j := 0) ok_44 rfl (by decide) (by decide) tw_302 rfl dX8_kind_88 ?_
          refine lv_iload hC.1 hC.2.1 dX8_kind_91 (lv_at hl 0 rfl) ?_
          obtain ⟨ok_45, h⟩ := h
          refine mm_pi hC hM (ci := 0) (j := 2) (ty := .int) ok_45 rfl (by decide) (by decide) tw_39 rfl rfl (by decide +kernel) rfl rfl dX8_kind_93 (fun S_46 H locs eS_46 hM => ?_)
          have h := h S_46 eS_46
          refine lv_aload_n hC.1 hC.2.1 dX8_kind_96 rfl (lv_at hl 2 rfl) ?_
          refine lv_bipush (v := (-5)) hC.1 hC.2.1 dX8_kind_97 (by decide) ?_
          obtain ⟨ok_49, h⟩ := h
          refine mm_ri hM (mm_V (As := [.int (-5)]) (rest := []) hC hM hl.1 (mX8_refused l G b0 S_46 o (-5) _) h (ci := 8) ok_49 rfl rfl kX8_refused tw_343 rfl (by decide) rfl (Nat.le_of_ble_eq_true rfl) dX8_kind_99 (by decide)) (fun r_48 S_47 H locs h hM => ?_)
          exact mm_iret hC hr hlk hM h dX8_kind_102
      · have h := h.2 c_22
        exact qX8_kind_26 hC hr hlk _ _ H locs ls h hM (lv_sub hl [0] rfl)
set_option maxHeartbeats 4000000 in
set_option maxRecDepth 100000 in
theorem qX8_lots_26 {p : Program} {l : Launch} {e : Env} {s : State} {m : MethodId} {args : Array Value} {below : List Frame} {meth : Method} {c : Code} {G : Gt} {b0 : Nat} (hC : CallFix p m c cX8_lots 4 s args lw_g RX8) (hr : meth.sig.returnType = (some .long)) (hlk : meth.locks = false) {K : Int64 → St → Prop} : ∀ (S : St) (H : Heap) (locs : List Loc) (ls : Array Slot), wX8_lots_26 K  S → MM G b0 s S H locs → lv_has ls 4 [] → W p l e rmX8_lots s m args below meth c H locs 0 0 (MQ below (va_Ql K (ME G b0) (AB b0)) args s 0 0 (AB b0)) (F0 m 26 ls []) := by
  intro  S H locs ls h hM hl
  unfold wX8_lots_26 at h
  refine lv_ldc2 (v := (-1)) hC.1 hC.2.1 hC.2.2.2.1 (hC.2.2.2.2 _ tw_679) dX8_lots_26 ?_
  exact mm_lret hC hr hlk hM h dX8_lots_29
set_option maxHeartbeats 4000000 in
set_option maxRecDepth 100000 in
theorem qX8_lots_52 {p : Program} {l : Launch} {e : Env} {s : State} {m : MethodId} {args : Array Value} {below : List Frame} {meth : Method} {c : Code} {G : Gt} {b0 : Nat} (hC : CallFix p m c cX8_lots 4 s args lw_g RX8) (hr : meth.sig.returnType = (some .long)) (hlk : meth.locks = false) {K : Int64 → St → Prop} : ∀ (S : St) (H : Heap) (locs : List Loc) (ls : Array Slot), wX8_lots_52 K  S → MM G b0 s S H locs → lv_has ls 4 [] → W p l e rmX8_lots s m args below meth c H locs 0 0 (MQ below (va_Ql K (ME G b0) (AB b0)) args s 0 0 (AB b0)) (F0 m 52 ls []) := by
  intro  S H locs ls h hM hl
  unfold wX8_lots_52 at h
  refine lv_ldc2 (v := (-2)) hC.1 hC.2.1 hC.2.2.2.1 (hC.2.2.2.2 _ tw_680) dX8_lots_52 ?_
  exact mm_lret hC hr hlk hM h dX8_lots_55
set_option maxHeartbeats 4000000 in
set_option maxRecDepth 100000 in
theorem mX8_lots (l : Launch) (G : Gt) (b0 : Nat) (S : St) (o : Nat) (x1 : Int32) (x2 : Int32) (x3 : Int32) (K : Int64 → St → Prop) : CL l G b0 S yX8_lots cX8_lots 4 (some .long) rmX8_lots [.ref (b0 + o), .int x1, .int x2, .int x3] (wX8_lots S o x1 x2 x3 K) K := by
  refine met_of (by decide) (Nat.le_of_ble_eq_true rfl) rfl ?_
  intro p e s m below meth c hC hr hlk hin h H locs ls hM hl
  unfold wX8_lots at h
  refine lv_iload_n hC.1 hC.2.1 dX8_lots_0 rfl (lv_at hl 1 rfl) ?_
  refine lv_bipush (v := 8) hC.1 hC.2.1 dX8_lots_1 (by decide) ?_
  refine mm_ri hM (mm_S (As := [.int x1, .int 8]) (rest := []) hC hM hl.1 (mX8_isWithin l G b0 S x1 8 _) h kX8_isWithin tw_367 rfl (by decide) rfl (Nat.le_of_ble_eq_true rfl) dX8_lots_3 (by decide)) (fun r_2 S_1 H locs h hM => ?_)
  refine lv_if_eq (tgt := 26) hC.1 hC.2.1 dX8_lots_6 (by decide) (fun c_3 => ?_) (fun c_3 => ?_)
  · have h := h.1 c_3
    exact qX8_lots_26 hC hr hlk  _ H locs ls h hM (lv_sub hl [] rfl)
  · have h := h.2 c_3
    refine lv_iload_n hC.1 hC.2.1 dX8_lots_9 rfl (lv_at hl 2 rfl) ?_
    refine lv_bipush (v := 8) hC.1 hC.2.1 dX8_lots_10 (by decide) ?_
    refine mm_ri hM (mm_S (As := [.int x2, .int 8]) (rest := []) hC hM hl.1 (mX8_isWithin l G b0 S_1 x2 8 _) h kX8_isWithin tw_367 rfl (by decide) rfl (Nat.le_of_ble_eq_true rfl) dX8_lots_12 (by decide)) (fun r_5 S_4 H locs h hM => ?_)
    refine lv_if_eq (tgt := 26) hC.1 hC.2.1 dX8_lots_15 (by decide) (fun c_6 => ?_) (fun c_6 => ?_)
    · have h := h.1 c_6
      exact qX8_lots_26 hC hr hlk  _ H locs ls h hM (lv_sub hl [] rfl)
    · have h := h.2 c_6
      refine lv_iload_n hC.1 hC.2.1 dX8_lots_18 rfl (lv_at hl 3 rfl) ?_
      refine lv_iconst (v := 2) hC.1 hC.2.1 dX8_lots_19 (by decide) ?_
      refine mm_ri hM (mm_S (As := [.int x3, .int 2]) (rest := []) hC hM hl.1 (mX8_isWithin l G b0 S_4 x3 2 _) h kX8_isWithin tw_367 rfl (by decide) rfl (Nat.le_of_ble_eq_true rfl) dX8_lots_20 (by decide)) (fun r_8 S_7 H locs h hM => ?_)
      refine lv_if_ne (tgt := 30) hC.1 hC.2.1 dX8_lots_23 (by decide) (fun c_9 => ?_) (fun c_9 => ?_)
      · have h := h.2 c_9
        refine lv_aload_n hC.1 hC.2.1 dX8_lots_30 rfl (lv_at hl 0 rfl) ?_
        obtain ⟨ok_10, h⟩ := h
        refine mm_gr hC hM (ci := 8) (j := 0) ok_10 rfl (by decide) (by decide) tw_302 rfl dX8_lots_31 ?_
        refine lv_iload_n hC.1 hC.2.1 dX8_lots_34 rfl (lv_at hl 1 rfl) ?_
        obtain ⟨ok_13, h⟩ := h
        refine mm_ri hM (mm_V (As := [.int x1]) (rest := []) hC hM hl.1 (mX0_hasWorld l G b0 S_7 (sR S_7 o 0) x1 _) h (ci := 0) ok_13 rfl rfl kX0_hasWorld tw_435 rfl (by decide) rfl (Nat.le_of_ble_eq_true rfl) dX8_lots_35 (by decide)) (fun r_12 S_11 H locs h hM => ?_)
        refine lv_if_eq (tgt := 52) hC.1 hC.2.1 dX8_lots_38 (by decide) (fun c_14 => ?_) (fun c_14 => ?_)
        · have h := h.1 c_14
          exact qX8_lots_52 hC hr hlk  _ H locs ls h hM (lv_sub hl [] rfl)
        · have h := h.2 c_14
          refine lv_aload_n hC.1 hC.2.1 dX8_lots_41 rfl (lv_at hl 0 rfl) ?_
          obtain ⟨ok_15, h⟩ := h
          refine mm_gr hC hM (ci := 8) (j := 0) ok_15 rfl (by decide) (by decide) tw_302 rfl dX8_lots_42 ?_
          refine lv_iload_n hC.1 hC.2.1 dX8_lots_45 rfl (lv_at hl 2 rfl) ?_
          obtain ⟨ok_18, h⟩ := h
          refine mm_ri hM (mm_V (As := [.int x2]) (rest := []) hC hM hl.1 (mX0_hasWorld l G b0 S_11 (sR S_11 o 0) x2 _) h (ci := 0) ok_18 rfl rfl kX0_hasWorld tw_435 rfl (by decide) rfl (Nat.le_of_ble_eq_true rfl) dX8_lots_46 (by decide)) (fun r_17 S_16 H locs h hM => ?_)
          refine lv_if_ne (tgt := 56) hC.1 hC.2.1 dX8_lots_49 (by decide) (fun c_19 => ?_) (fun c_19 => ?_)
          · have h := h.2 c_19
            refine lv_aload_n hC.1 hC.2.1 dX8_lots_56 rfl (lv_at hl 0 rfl) ?_
            obtain ⟨ok_20, h⟩ := h
            refine mm_gr hC hM (ci := 8) (j := 1) ok_20 rfl (by decide) (by decide) tw_303 rfl dX8_lots_57 ?_
            obtain ⟨ok_21, h⟩ := h
            refine mm_gi hC hM (ci := 3) (j := 0) ok_21 rfl (by decide) (by decide) tw_93 rfl dX8_lots_60 ?_
            refine lv_if_ne (tgt := 70) hC.1 hC.2.1 dX8_lots_63 (by decide) (fun c_22 => ?_) (fun c_22 => ?_)
            · have h := h.2 c_22
              refine lv_aload_n hC.1 hC.2.1 dX8_lots_70 rfl (lv_at hl 0 rfl) ?_
              obtain ⟨ok_23, h⟩ := h
              refine mm_gr hC hM (ci := 8) (j := 7) ⟨ok_20.1, ok_23⟩ rfl (by decide) (by decide) tw_309 rfl dX8_lots_71 ?_
              refine lv_iload_n hC.1 hC.2.1 dX8_lots_74 rfl (lv_at hl 1 rfl) ?_
              refine lv_iload_n hC.1 hC.2.1 dX8_lots_75 rfl (lv_at hl 2 rfl) ?_
              obtain ⟨ok_26, h⟩ := h
              refine mm_rv hM (mm_V (As := [.int x1, .int x2]) (rest := []) hC hM hl.1 (mX7_look l G b0 S_16 (sR S_16 o 7) x1 x2 _) h (ci := 7) ok_26 rfl rfl kX7_look tw_648 rfl (by decide) rfl (Nat.le_of_ble_eq_true rfl) dX8_lots_76 (by decide)) (fun S_24 H locs h hM => ?_)
              refine lv_aload_n hC.1 hC.2.1 dX8_lots_79 rfl (lv_at hl 0 rfl) ?_
              obtain ⟨ok_27, h⟩ := h
              refine mm_gr hC hM (ci := 8) (j := 7) ok_27 rfl (by decide) (by decide) tw_309 rfl dX8_lots_80 ?_
              obtain ⟨ok_30, h⟩ := h
              refine mm_rv hM (mm_V (As := []) (rest := []) hC hM hl.1 (mX7_draw l G b0 S_24 (sR S_24 o 7) _) h (ci := 7) ok_30 rfl rfl kX7_draw tw_682 rfl (by decide) rfl (Nat.le_of_ble_eq_true rfl) dX8_lots_83 (by decide)) (fun S_28 H locs h hM => ?_)
              refine lv_iload_n hC.1 hC.2.1 dX8_lots_86 rfl (lv_at hl 3 rfl) ?_
              refine lv_if_ne (tgt := 100) hC.1 hC.2.1 dX8_lots_87 (by decide) (fun c_31 => ?_) (fun c_31 => ?_)
              · have h := h.2 c_31
                refine lv_aload_n hC.1 hC.2.1 dX8_lots_100 rfl (lv_at hl 0 rfl) ?_
                obtain ⟨ok_32, h⟩ := h
                refine mm_gr hC hM (ci := 8) (j := 7) ok_32 rfl (by decide) (by decide) tw_309 rfl dX8_lots_101 ?_
                obtain ⟨ok_33, h⟩ := h
                refine mm_gl hC hM (ci := 7) (j := 6) ok_33 rfl (by decide) (by decide) tw_259 rfl dX8_lots_104 ?_
                exact mm_lret hC hr hlk hM h dX8_lots_107
              · have h := h.1 c_31
                refine lv_aload_n hC.1 hC.2.1 dX8_lots_90 rfl (lv_at hl 0 rfl) ?_
                obtain ⟨ok_34, h⟩ := h
                refine mm_gr hC hM (ci := 8) (j := 7) ok_34 rfl (by decide) (by decide) tw_309 rfl dX8_lots_91 ?_
                obtain ⟨ok_35, h⟩ := h
                refine mm_gl hC hM (ci := 7) (j := 5) ok_35 rfl (by decide) (by decide) tw_257 rfl dX8_lots_94 ?_
                refine lv_goto (tgt := 107) hC.1 hC.2.1 dX8_lots_97 (by decide) ?_
                exact mm_lret hC hr hlk hM h dX8_lots_107
            · have h := h.1 c_22
              refine lv_ldc2 (v := (-6)) hC.1 hC.2.1 hC.2.2.2.1 (hC.2.2.2.2 _ tw_681) dX8_lots_66 ?_
              exact mm_lret hC hr hlk hM h dX8_lots_69
          · have h := h.1 c_19
            exact qX8_lots_52 hC hr hlk  _ H locs ls h hM (lv_sub hl [] rfl)
      · have h := h.1 c_9
        exact qX8_lots_26 hC hr hlk  _ H locs ls h hM (lv_sub hl [] rfl)
set_option maxHeartbeats 4000000 in
set_option maxRecDepth 100000 in
theorem mX8_many (l : Launch) (G : Gt) (b0 : Nat) (S : St) (o : Nat) (K : Int32 → St → Prop) : CI l G b0 S yX8_many cX8_many 1 (some .int) rmX8_many [.ref (b0 + o)] (wX8_many S o K) K := by
  refine met_of (by decide) (Nat.le_of_ble_eq_true rfl) rfl ?_
  intro p e s m below meth c hC hr hlk hin h H locs ls hM hl
  unfold wX8_many at h
  refine lv_aload_n hC.1 hC.2.1 dX8_many_0 rfl (lv_at hl 0 rfl) ?_
  obtain ⟨ok_1, h⟩ := h
  refine mm_gr hC hM (ci := 8) (j := 5) ok_1 rfl (by decide) (by decide) tw_307 rfl dX8_many_1 ?_
  obtain ⟨ok_4, h⟩ := h
  refine mm_ri hM (mm_V (As := []) (rest := []) hC hM hl.1 (mX1_howManyLeastRued l G b0 S (sR S o 5) _) h (ci := 1) ok_4 rfl rfl kX1_howManyLeastRued tw_539 rfl (by decide) rfl (Nat.le_of_ble_eq_true rfl) dX8_many_4 (by decide)) (fun r_3 S_2 H locs h hM => ?_)
  exact mm_iret hC hr hlk hM h dX8_many_7
set_option maxHeartbeats 4000000 in
set_option maxRecDepth 100000 in
theorem mX8_middle (l : Launch) (G : Gt) (b0 : Nat) (S : St) (o : Nat) (K : Int32 → St → Prop) : CI l G b0 S yX8_middle cX8_middle 1 (some .int) rmX8_middle [.ref (b0 + o)] (wX8_middle S o K) K := by
  refine met_of (by decide) (Nat.le_of_ble_eq_true rfl) rfl ?_
  intro p e s m below meth c hC hr hlk hin h H locs ls hM hl
  unfold wX8_middle at h
  refine lv_aload_n hC.1 hC.2.1 dX8_middle_0 rfl (lv_at hl 0 rfl) ?_
  obtain ⟨ok_1, h⟩ := h
  refine mm_gr hC hM (ci := 8) (j := 1) ok_1 rfl (by decide) (by decide) tw_303 rfl dX8_middle_1 ?_
  obtain ⟨ok_2, h⟩ := h
  refine mm_gi hC hM (ci := 3) (j := 0) ok_2 rfl (by decide) (by decide) tw_93 rfl dX8_middle_4 ?_
  refine lv_if_ne (tgt := 15) hC.1 hC.2.1 dX8_middle_7 (by decide) (fun c_3 => ?_) (fun c_3 => ?_)
  · have h := h.2 c_3
    refine lv_aload_n hC.1 hC.2.1 dX8_middle_15 rfl (lv_at hl 0 rfl) ?_
    obtain ⟨ok_4, h⟩ := h
    refine mm_gr hC hM (ci := 8) (j := 5) ⟨ok_1.1, ok_4⟩ rfl (by decide) (by decide) tw_307 rfl dX8_middle_16 ?_
    obtain ⟨ok_7, h⟩ := h
    refine mm_ri hM (mm_V (As := []) (rest := []) hC hM hl.1 (mX1_cheapestAtMiddles l G b0 S (sR S o 5) _) h (ci := 1) ok_7 rfl rfl kX1_cheapestAtMiddles tw_548 rfl (by decide) rfl (Nat.le_of_ble_eq_true rfl) dX8_middle_19 (by decide)) (fun r_6 S_5 H locs h hM => ?_)
    exact mm_iret hC hr hlk hM h dX8_middle_22
  · have h := h.1 c_3
    refine lv_bipush (v := (-6)) hC.1 hC.2.1 dX8_middle_10 (by decide) ?_
    refine lv_goto (tgt := 22) hC.1 hC.2.1 dX8_middle_12 (by decide) ?_
    exact mm_iret hC hr hlk hM h dX8_middle_22
set_option maxHeartbeats 4000000 in
set_option maxRecDepth 100000 in
theorem mX8_of (l : Launch) (G : Gt) (b0 : Nat) (S : St) (o : Nat) (x1 : Int32) (x2 : Int32) (K : Int32 → St → Prop) : CI l G b0 S yX8_of cX8_of 3 (some .int) rmX8_of [.ref (b0 + o), .int x1, .int x2] (wX8_of S o x1 x2 K) K := by
  refine met_of (by decide) (Nat.le_of_ble_eq_true rfl) rfl ?_
  intro p e s m below meth c hC hr hlk hin h H locs ls hM hl
  unfold wX8_of at h
  refine lv_aload_n hC.1 hC.2.1 dX8_of_0 rfl (lv_at hl 0 rfl) ?_
  refine lv_iload_n hC.1 hC.2.1 dX8_of_1 rfl (lv_at hl 1 rfl) ?_
  obtain ⟨ok_3, h⟩ := h
  refine mm_ri hM (mm_V (As := [.int x1]) (rest := []) hC hM hl.1 (mX8_isThing l G b0 S o x1 _) h (ci := 8) ok_3 rfl rfl kX8_isThing tw_363 rfl (by decide) rfl (Nat.le_of_ble_eq_true rfl) dX8_of_2 (by decide)) (fun r_2 S_1 H locs h hM => ?_)
  refine lv_if_ne (tgt := 10) hC.1 hC.2.1 dX8_of_5 (by decide) (fun c_4 => ?_) (fun c_4 => ?_)
  · have h := h.2 c_4
    refine lv_iload_n hC.1 hC.2.1 dX8_of_10 rfl (lv_at hl 2 rfl) ?_
    refine mm_sw (lo := 0) (hi := 4) hC.1 hC.2.1 dX8_of_11 (by decide) (fun c_5 => ?_) ?_
    · have h := h.1 c_5
      refine ⟨94, by decide, ?_⟩
      refine lv_aload_n hC.1 hC.2.1 dX8_of_94 rfl (lv_at hl 0 rfl) ?_
      refine lv_iload_n hC.1 hC.2.1 dX8_of_95 rfl (lv_at hl 1 rfl) ?_
      refine lv_iload_n hC.1 hC.2.1 dX8_of_96 rfl (lv_at hl 2 rfl) ?_
      obtain ⟨ok_23, h⟩ := h
      refine mm_ri hM (mm_V (As := [.int x1, .int x2]) (rest := []) hC hM hl.1 (mX8_costOfThing l G b0 S_1 o x1 x2 _) h (ci := 8) ok_23 rfl rfl kX8_costOfThing tw_465 rfl (by decide) rfl (Nat.le_of_ble_eq_true rfl) dX8_of_97 (by decide)) (fun r_22 S_21 H locs h hM => ?_)
      exact mm_iret hC hr hlk hM h dX8_of_100
    · intro i hi
      match i, hi with
      | 0, _ =>
        intro c_5
        have h := h.2.1 (c_5.trans (by decide))
        refine ⟨44, by decide, ?_⟩
        refine lv_aload_n hC.1 hC.2.1 dX8_of_44 rfl (lv_at hl 0 rfl) ?_
        obtain ⟨ok_6, h⟩ := h
        refine mm_gr hC hM (ci := 8) (j := 0) ok_6 rfl (by decide) (by decide) tw_302 rfl dX8_of_45 ?_
        obtain ⟨ok_7, h⟩ := h
        refine mm_gr hC hM (ci := 0) (j := 4) ok_7 rfl (by decide) (by decide) tw_43 rfl dX8_of_48 ?_
        refine lv_iload_n hC.1 hC.2.1 dX8_of_51 rfl (lv_at hl 1 rfl) ?_
        obtain ⟨ok_8, h⟩ := h
        refine mm_il hC hM ok_8 dX8_of_52 ?_
        exact mm_iret hC hr hlk hM h dX8_of_53
      | 1, _ =>
        intro c_5
        have h := h.2.2.1 (c_5.trans (by decide))
        refine ⟨54, by decide, ?_⟩
        refine lv_aload_n hC.1 hC.2.1 dX8_of_54 rfl (lv_at hl 0 rfl) ?_
        obtain ⟨ok_9, h⟩ := h
        refine mm_gr hC hM (ci := 8) (j := 0) ok_9 rfl (by decide) (by decide) tw_302 rfl dX8_of_55 ?_
        obtain ⟨ok_10, h⟩ := h
        refine mm_gr hC hM (ci := 0) (j := 5) ok_10 rfl (by decide) (by decide) tw_46 rfl dX8_of_58 ?_
        refine lv_iload_n hC.1 hC.2.1 dX8_of_61 rfl (lv_at hl 1 rfl) ?_
        obtain ⟨ok_11, h⟩ := h
        refine mm_il hC hM ok_11 dX8_of_62 ?_
        exact mm_iret hC hr hlk hM h dX8_of_63
      | 2, _ =>
        intro c_5
        have h := h.2.2.2.1 (c_5.trans (by decide))
        refine ⟨64, by decide, ?_⟩
        refine lv_aload_n hC.1 hC.2.1 dX8_of_64 rfl (lv_at hl 0 rfl) ?_
        obtain ⟨ok_12, h⟩ := h
        refine mm_gr hC hM (ci := 8) (j := 0) ok_12 rfl (by decide) (by decide) tw_302 rfl dX8_of_65 ?_
        obtain ⟨ok_13, h⟩ := h
        refine mm_gr hC hM (ci := 0) (j := 6) ok_13 rfl (by decide) (by decide) tw_49 rfl dX8_of_68 ?_
        refine lv_iload_n hC.1 hC.2.1 dX8_of_71 rfl (lv_at hl 1 rfl) ?_
        obtain ⟨ok_14, h⟩ := h
        refine mm_il hC hM ok_14 dX8_of_72 ?_
        exact mm_iret hC hr hlk hM h dX8_of_73
      | 3, _ =>
        intro c_5
        have h := h.2.2.2.2.1 (c_5.trans (by decide))
        refine ⟨74, by decide, ?_⟩
        refine lv_aload_n hC.1 hC.2.1 dX8_of_74 rfl (lv_at hl 0 rfl) ?_
        obtain ⟨ok_15, h⟩ := h
        refine mm_gr hC hM (ci := 8) (j := 0) ok_15 rfl (by decide) (by decide) tw_302 rfl dX8_of_75 ?_
        obtain ⟨ok_16, h⟩ := h
        refine mm_gr hC hM (ci := 0) (j := 7) ok_16 rfl (by decide) (by decide) tw_51 rfl dX8_of_78 ?_
        refine lv_iload_n hC.1 hC.2.1 dX8_of_81 rfl (lv_at hl 1 rfl) ?_
        obtain ⟨ok_17, h⟩ := h
        refine mm_il hC hM ok_17 dX8_of_82 ?_
        exact mm_iret hC hr hlk hM h dX8_of_83
      | 4, _ =>
        intro c_5
        have h := h.2.2.2.2.2 (c_5.trans (by decide))
        refine ⟨84, by decide, ?_⟩
        refine lv_aload_n hC.1 hC.2.1 dX8_of_84 rfl (lv_at hl 0 rfl) ?_
        obtain ⟨ok_18, h⟩ := h
        refine mm_gr hC hM (ci := 8) (j := 0) ok_18 rfl (by decide) (by decide) tw_302 rfl dX8_of_85 ?_
        obtain ⟨ok_19, h⟩ := h
        refine mm_gr hC hM (ci := 0) (j := 8) ok_19 rfl (by decide) (by decide) tw_54 rfl dX8_of_88 ?_
        refine lv_iload_n hC.1 hC.2.1 dX8_of_91 rfl (lv_at hl 1 rfl) ?_
        obtain ⟨ok_20, h⟩ := h
        refine mm_il hC hM ok_20 dX8_of_92 ?_
        exact mm_iret hC hr hlk hM h dX8_of_93
      | q + 5, hi => exact absurd hi (by simp)
  · have h := h.1 c_4
    refine lv_iconst (v := (-1)) hC.1 hC.2.1 dX8_of_8 (by decide) ?_
    exact mm_iret hC hr hlk hM h dX8_of_9
set_option maxHeartbeats 4000000 in
set_option maxRecDepth 100000 in
theorem qX8_posts_18 {p : Program} {l : Launch} {e : Env} {s : State} {m : MethodId} {args : Array Value} {below : List Frame} {meth : Method} {c : Code} {G : Gt} {b0 : Nat} (hC : CallFix p m c cX8_posts 6 s args lw_g RX8) (hr : meth.sig.returnType = (some .int)) (hlk : meth.locks = false) {K : Int32 → St → Prop} : ∀ (x0 : Nat) (S : St) (H : Heap) (locs : List Loc) (ls : Array Slot), wX8_posts_18 K x0 S → MM G b0 s S H locs → lv_has ls 6 [(0, .ref (b0 + x0))] → W p l e rmX8_posts s m args below meth c H locs 0 0 (MQ below (va_Qi K (ME G b0) (AB b0)) args s 0 0 (AB b0)) (F0 m 18 ls []) := by
  intro x0 S H locs ls h hM hl
  unfold wX8_posts_18 at h
  refine lv_aload_n hC.1 hC.2.1 dX8_posts_18 rfl (lv_at hl 0 rfl) ?_
  refine lv_iconst (v := (-1)) hC.1 hC.2.1 dX8_posts_19 (by decide) ?_
  obtain ⟨ok_3, h⟩ := h
  refine mm_ri hM (mm_V (As := [.int (-1)]) (rest := []) hC hM hl.1 (mX8_refused l G b0 S x0 (-1) _) h (ci := 8) ok_3 rfl rfl kX8_refused tw_343 rfl (by decide) rfl (Nat.le_of_ble_eq_true rfl) dX8_posts_20 (by decide)) (fun r_2 S_1 H locs h hM => ?_)
  exact mm_iret hC hr hlk hM h dX8_posts_23
set_option maxHeartbeats 4000000 in
set_option maxRecDepth 100000 in
theorem mX8_posts (l : Launch) (G : Gt) (b0 : Nat) (S : St) (o : Nat) (x1 : Int32) (x2 : Int32) (x3 : Int32) (K : Int32 → St → Prop) : CI l G b0 S yX8_posts cX8_posts 6 (some .int) rmX8_posts [.ref (b0 + o), .int x1, .int x2, .int x3] (wX8_posts S o x1 x2 x3 K) K := by
  refine met_of (by decide) (Nat.le_of_ble_eq_true rfl) rfl ?_
  intro p e s m below meth c hC hr hlk hin h H locs ls hM hl
  unfold wX8_posts at h
  refine lv_iload_n hC.1 hC.2.1 dX8_posts_0 rfl (lv_at hl 2 rfl) ?_
  refine lv_bipush (v := 6) hC.1 hC.2.1 dX8_posts_1 (by decide) ?_
  refine mm_ri hM (mm_S (As := [.int x2, .int 6]) (rest := []) hC hM hl.1 (mX8_isWithin l G b0 S x2 6 _) h kX8_isWithin tw_367 rfl (by decide) rfl (Nat.le_of_ble_eq_true rfl) dX8_posts_3 (by decide)) (fun r_5 S_4 H locs h hM => ?_)
  refine lv_if_eq (tgt := 18) hC.1 hC.2.1 dX8_posts_6 (by decide) (fun c_6 => ?_) (fun c_6 => ?_)
  · have h := h.1 c_6
    exact qX8_posts_18 hC hr hlk _ _ H locs ls h hM (lv_sub hl [0] rfl)
  · have h := h.2 c_6
    refine lv_iload_n hC.1 hC.2.1 dX8_posts_9 rfl (lv_at hl 3 rfl) ?_
    refine lv_bipush (v := 6) hC.1 hC.2.1 dX8_posts_10 (by decide) ?_
    refine mm_ri hM (mm_S (As := [.int x3, .int 6]) (rest := []) hC hM hl.1 (mX8_isWithin l G b0 S_4 x3 6 _) h kX8_isWithin tw_367 rfl (by decide) rfl (Nat.le_of_ble_eq_true rfl) dX8_posts_12 (by decide)) (fun r_8 S_7 H locs h hM => ?_)
    refine lv_if_ne (tgt := 24) hC.1 hC.2.1 dX8_posts_15 (by decide) (fun c_9 => ?_) (fun c_9 => ?_)
    · have h := h.2 c_9
      refine lv_aload_n hC.1 hC.2.1 dX8_posts_24 rfl (lv_at hl 0 rfl) ?_
      refine lv_iload_n hC.1 hC.2.1 dX8_posts_25 rfl (lv_at hl 1 rfl) ?_
      obtain ⟨ok_12, h⟩ := h
      refine mm_ri hM (mm_V (As := [.int x1]) (rest := []) hC hM hl.1 (mX8_isThing l G b0 S_7 o x1 _) h (ci := 8) ok_12 rfl rfl kX8_isThing tw_363 rfl (by decide) rfl (Nat.le_of_ble_eq_true rfl) dX8_posts_26 (by decide)) (fun r_11 S_10 H locs h hM => ?_)
      refine lv_if_ne (tgt := 39) hC.1 hC.2.1 dX8_posts_29 (by decide) (fun c_13 => ?_) (fun c_13 => ?_)
      · have h := h.2 c_13
        refine lv_aload_n hC.1 hC.2.1 dX8_posts_39 rfl (lv_at hl 0 rfl) ?_
        obtain ⟨ok_14, h⟩ := h
        refine mm_gr hC hM (ci := 8) (j := 0) ok_14 rfl (by decide) (by decide) tw_302 rfl dX8_posts_40 ?_
        obtain ⟨ok_15, h⟩ := h
        refine mm_gr hC hM (ci := 0) (j := 6) ok_15 rfl (by decide) (by decide) tw_49 rfl dX8_posts_43 ?_
        refine lv_iload_n hC.1 hC.2.1 dX8_posts_46 rfl (lv_at hl 1 rfl) ?_
        obtain ⟨ok_16, h⟩ := h
        refine mm_il hC hM ok_16 dX8_posts_47 ?_
        refine lv_topi (fun x4_17 ex4_17 => ?_)
        have h := h x4_17 ex4_17
        refine lv_istore (lv' := [(4, .int x4_17), (0, .ref (b0 + o)), (1, .int x1), (2, .int x2), (3, .int x3)]) hC.1 hC.2.1 dX8_posts_48 hl (by decide) rfl (fun ls hl => ?_)
        refine lv_aload_n hC.1 hC.2.1 dX8_posts_50 rfl (lv_at hl 1 rfl) ?_
        refine mm_gr hC hM (ci := 8) (j := 0) ok_14 rfl (by decide) (by decide) tw_302 rfl dX8_posts_51 ?_
        obtain ⟨ok_18, h⟩ := h
        refine mm_gr hC hM (ci := 0) (j := 7) ⟨ok_15.1, ok_18⟩ rfl (by decide) (by decide) tw_51 rfl dX8_posts_54 ?_
        refine lv_iload_n hC.1 hC.2.1 dX8_posts_57 rfl (lv_at hl 2 rfl) ?_
        obtain ⟨ok_19, h⟩ := h
        refine mm_il hC hM ok_19 dX8_posts_58 ?_
        refine lv_topi (fun x5_20 ex5_20 => ?_)
        have h := h x5_20 ex5_20
        refine lv_istore (lv' := [(5, .int x5_20), (4, .int x4_17), (0, .ref (b0 + o)), (1, .int x1), (2, .int x2), (3, .int x3)]) hC.1 hC.2.1 dX8_posts_59 hl (by decide) rfl (fun ls hl => ?_)
        refine lv_aload_n hC.1 hC.2.1 dX8_posts_61 rfl (lv_at hl 2 rfl) ?_
        refine mm_gr hC hM (ci := 8) (j := 0) ok_14 rfl (by decide) (by decide) tw_302 rfl dX8_posts_62 ?_
        refine mm_gr hC hM (ci := 0) (j := 6) ok_15 rfl (by decide) (by decide) tw_49 rfl dX8_posts_65 ?_
        refine lv_iload_n hC.1 hC.2.1 dX8_posts_68 rfl (lv_at hl 3 rfl) ?_
        refine lv_iload_n hC.1 hC.2.1 dX8_posts_69 rfl (lv_at hl 4 rfl) ?_
        refine mm_is hC hM ok_16 dX8_posts_70 (fun S_21 H locs eS_21 hM => ?_)
        have h := h S_21 eS_21
        refine lv_aload_n hC.1 hC.2.1 dX8_posts_71 rfl (lv_at hl 2 rfl) ?_
        obtain ⟨ok_22, h⟩ := h
        refine mm_gr hC hM (ci := 8) (j := 0) ok_22 rfl (by decide) (by decide) tw_302 rfl dX8_posts_72 ?_
        obtain ⟨ok_23, h⟩ := h
        refine mm_gr hC hM (ci := 0) (j := 7) ok_23 rfl (by decide) (by decide) tw_51 rfl dX8_posts_75 ?_
        refine lv_iload_n hC.1 hC.2.1 dX8_posts_78 rfl (lv_at hl 3 rfl) ?_
        refine lv_iload_n hC.1 hC.2.1 dX8_posts_79 rfl (lv_at hl 5 rfl) ?_
        obtain ⟨ok_24, h⟩ := h
        refine mm_is hC hM ok_24 dX8_posts_80 (fun S_25 H locs eS_25 hM => ?_)
        have h := h S_25 eS_25
        refine lv_aload_n hC.1 hC.2.1 dX8_posts_81 rfl (lv_at hl 2 rfl) ?_
        obtain ⟨ok_26, h⟩ := h
        refine mm_gr hC hM (ci := 8) (j := 1) ok_26 rfl (by decide) (by decide) tw_303 rfl dX8_posts_82 ?_
        refine lv_aload_n hC.1 hC.2.1 dX8_posts_85 rfl (lv_at hl 2 rfl) ?_
        obtain ⟨ok_27, h⟩ := h
        refine mm_gr hC hM (ci := 8) (j := 0) ⟨ok_26.1, ok_27⟩ rfl (by decide) (by decide) tw_302 rfl dX8_posts_86 ?_
        obtain ⟨ok_30, h⟩ := h
        refine mm_ri hM (mm_V (As := [.ref (b0 + (sR S_25 o 0))]) (rest := []) hC hM hl.1 (mX3_relist l G b0 S_25 (sR S_25 o 1) (sR S_25 o 0) _) h (ci := 3) ok_30 rfl rfl kX3_relist tw_108 rfl (by decide) rfl (Nat.le_of_ble_eq_true rfl) dX8_posts_89 (by decide)) (fun r_29 S_28 H locs h hM => ?_)
        refine lv_if_ne (tgt := 124) hC.1 hC.2.1 dX8_posts_92 (by decide) (fun c_31 => ?_) (fun c_31 => ?_)
        · have h := h.2 c_31
          refine lv_aload_n hC.1 hC.2.1 dX8_posts_124 rfl (lv_at hl 2 rfl) ?_
          refine lv_iconst (v := 0) hC.1 hC.2.1 dX8_posts_125 (by decide) ?_
          obtain ⟨ok_34, h⟩ := h
          refine mm_ri hM (mm_V (As := [.int 0]) (rest := []) hC hM hl.1 (mX8_accepted l G b0 S_28 o 0 _) h (ci := 8) ok_34 rfl rfl kX8_accepted tw_351 rfl (by decide) rfl (Nat.le_of_ble_eq_true rfl) dX8_posts_126 (by decide)) (fun r_33 S_32 H locs h hM => ?_)
          exact mm_iret hC hr hlk hM h dX8_posts_129
        · have h := h.1 c_31
          refine lv_aload_n hC.1 hC.2.1 dX8_posts_95 rfl (lv_at hl 2 rfl) ?_
          obtain ⟨ok_35, h⟩ := h
          refine mm_gr hC hM (ci := 8) (j := 0) ok_35 rfl (by decide) (by decide) tw_302 rfl dX8_posts_96 ?_
          obtain ⟨ok_36, h⟩ := h
          refine mm_gr hC hM (ci := 0) (j := 6) ok_36 rfl (by decide) (by decide) tw_49 rfl dX8_posts_99 ?_
          refine lv_iload_n hC.1 hC.2.1 dX8_posts_102 rfl (lv_at hl 3 rfl) ?_
          refine lv_iload hC.1 hC.2.1 dX8_posts_103 (lv_at hl 1 rfl) ?_
          obtain ⟨ok_37, h⟩ := h
          refine mm_is hC hM ok_37 dX8_posts_105 (fun S_38 H locs eS_38 hM => ?_)
          have h := h S_38 eS_38
          refine lv_aload_n hC.1 hC.2.1 dX8_posts_106 rfl (lv_at hl 2 rfl) ?_
          obtain ⟨ok_39, h⟩ := h
          refine mm_gr hC hM (ci := 8) (j := 0) ok_39 rfl (by decide) (by decide) tw_302 rfl dX8_posts_107 ?_
          obtain ⟨ok_40, h⟩ := h
          refine mm_gr hC hM (ci := 0) (j := 7) ok_40 rfl (by decide) (by decide) tw_51 rfl dX8_posts_110 ?_
          refine lv_iload_n hC.1 hC.2.1 dX8_posts_113 rfl (lv_at hl 3 rfl) ?_
          refine lv_iload hC.1 hC.2.1 dX8_posts_114 (lv_at hl 0 rfl) ?_
          obtain ⟨ok_41, h⟩ := h
          refine mm_is hC hM ok_41 dX8_posts_116 (fun S_42 H locs eS_42 hM => ?_)
          have h := h S_42 eS_42
          refine lv_aload_n hC.1 hC.2.1 dX8_posts_117 rfl (lv_at hl 2 rfl) ?_
          refine lv_bipush (v := (-5)) hC.1 hC.2.1 dX8_posts_118 (by decide) ?_
          obtain ⟨ok_45, h⟩ := h
          refine mm_ri hM (mm_V (As := [.int (-5)]) (rest := []) hC hM hl.1 (mX8_refused l G b0 S_42 o (-5) _) h (ci := 8) ok_45 rfl rfl kX8_refused tw_343 rfl (by decide) rfl (Nat.le_of_ble_eq_true rfl) dX8_posts_120 (by decide)) (fun r_44 S_43 H locs h hM => ?_)
          exact mm_iret hC hr hlk hM h dX8_posts_123
      · have h := h.1 c_13
        refine lv_aload_n hC.1 hC.2.1 dX8_posts_32 rfl (lv_at hl 0 rfl) ?_
        refine lv_bipush (v := (-2)) hC.1 hC.2.1 dX8_posts_33 (by decide) ?_
        obtain ⟨ok_48, h⟩ := h
        refine mm_ri hM (mm_V (As := [.int (-2)]) (rest := []) hC hM hl.1 (mX8_refused l G b0 S_10 o (-2) _) h (ci := 8) ok_48 rfl rfl kX8_refused tw_343 rfl (by decide) rfl (Nat.le_of_ble_eq_true rfl) dX8_posts_35 (by decide)) (fun r_47 S_46 H locs h hM => ?_)
        exact mm_iret hC hr hlk hM h dX8_posts_38
    · have h := h.1 c_9
      exact qX8_posts_18 hC hr hlk _ _ H locs ls h hM (lv_sub hl [0] rfl)
set_option maxHeartbeats 4000000 in
set_option maxRecDepth 100000 in
theorem mX8_price (l : Launch) (G : Gt) (b0 : Nat) (S : St) (o : Nat) (x1 : Int32) (x2 : Int32) (K : Int32 → St → Prop) : CI l G b0 S yX8_price cX8_price 4 (some .int) rmX8_price [.ref (b0 + o), .int x1, .int x2] (wX8_price S o x1 x2 K) K := by
  refine met_of (by decide) (Nat.le_of_ble_eq_true rfl) rfl ?_
  intro p e s m below meth c hC hr hlk hin h H locs ls hM hl
  unfold wX8_price at h
  refine lv_iload_n hC.1 hC.2.1 dX8_price_0 rfl (lv_at hl 2 rfl) ?_
  refine mm_ri hM (mm_S (As := [.int x2]) (rest := []) hC hM hl.1 (mX8_isCost l G b0 S x2 _) h kX8_isCost tw_340 rfl (by decide) rfl (Nat.le_of_ble_eq_true rfl) dX8_price_1 (by decide)) (fun r_2 S_1 H locs h hM => ?_)
  refine lv_if_ne (tgt := 13) hC.1 hC.2.1 dX8_price_4 (by decide) (fun c_3 => ?_) (fun c_3 => ?_)
  · have h := h.2 c_3
    refine lv_aload_n hC.1 hC.2.1 dX8_price_13 rfl (lv_at hl 0 rfl) ?_
    refine lv_iload_n hC.1 hC.2.1 dX8_price_14 rfl (lv_at hl 1 rfl) ?_
    obtain ⟨ok_6, h⟩ := h
    refine mm_ri hM (mm_V (As := [.int x1]) (rest := []) hC hM hl.1 (mX8_isThing l G b0 S_1 o x1 _) h (ci := 8) ok_6 rfl rfl kX8_isThing tw_363 rfl (by decide) rfl (Nat.le_of_ble_eq_true rfl) dX8_price_15 (by decide)) (fun r_5 S_4 H locs h hM => ?_)
    refine lv_if_ne (tgt := 28) hC.1 hC.2.1 dX8_price_18 (by decide) (fun c_7 => ?_) (fun c_7 => ?_)
    · have h := h.2 c_7
      refine lv_aload_n hC.1 hC.2.1 dX8_price_28 rfl (lv_at hl 0 rfl) ?_
      obtain ⟨ok_8, h⟩ := h
      refine mm_gr hC hM (ci := 8) (j := 0) ok_8 rfl (by decide) (by decide) tw_302 rfl dX8_price_29 ?_
      obtain ⟨ok_9, h⟩ := h
      refine mm_gr hC hM (ci := 0) (j := 8) ok_9 rfl (by decide) (by decide) tw_54 rfl dX8_price_32 ?_
      refine lv_iload_n hC.1 hC.2.1 dX8_price_35 rfl (lv_at hl 1 rfl) ?_
      obtain ⟨ok_10, h⟩ := h
      refine mm_il hC hM ok_10 dX8_price_36 ?_
      refine lv_topi (fun x3_11 ex3_11 => ?_)
      have h := h x3_11 ex3_11
      refine lv_istore_n (lv' := [(3, .int x3_11), (0, .ref (b0 + o)), (1, .int x1), (2, .int x2)]) hC.1 hC.2.1 dX8_price_37 rfl hl (by decide) rfl (fun ls hl => ?_)
      refine lv_aload_n hC.1 hC.2.1 dX8_price_38 rfl (lv_at hl 1 rfl) ?_
      refine mm_gr hC hM (ci := 8) (j := 0) ok_8 rfl (by decide) (by decide) tw_302 rfl dX8_price_39 ?_
      refine mm_gr hC hM (ci := 0) (j := 8) ok_9 rfl (by decide) (by decide) tw_54 rfl dX8_price_42 ?_
      refine lv_iload_n hC.1 hC.2.1 dX8_price_45 rfl (lv_at hl 2 rfl) ?_
      refine lv_iload_n hC.1 hC.2.1 dX8_price_46 rfl (lv_at hl 3 rfl) ?_
      refine mm_is hC hM ok_10 dX8_price_47 (fun S_12 H locs eS_12 hM => ?_)
      have h := h S_12 eS_12
      refine lv_aload_n hC.1 hC.2.1 dX8_price_48 rfl (lv_at hl 1 rfl) ?_
      refine lv_iload_n hC.1 hC.2.1 dX8_price_49 rfl (lv_at hl 0 rfl) ?_
      obtain ⟨ok_15, h⟩ := h
      refine mm_ri hM (mm_V (As := [.int x3_11]) (rest := []) hC hM hl.1 (mX8_accepted l G b0 S_12 o x3_11 _) h (ci := 8) ok_15 rfl rfl kX8_accepted tw_351 rfl (by decide) rfl (Nat.le_of_ble_eq_true rfl) dX8_price_50 (by decide)) (fun r_14 S_13 H locs h hM => ?_)
      exact mm_iret hC hr hlk hM h dX8_price_53
    · have h := h.1 c_7
      refine lv_aload_n hC.1 hC.2.1 dX8_price_21 rfl (lv_at hl 0 rfl) ?_
      refine lv_bipush (v := (-2)) hC.1 hC.2.1 dX8_price_22 (by decide) ?_
      obtain ⟨ok_18, h⟩ := h
      refine mm_ri hM (mm_V (As := [.int (-2)]) (rest := []) hC hM hl.1 (mX8_refused l G b0 S_4 o (-2) _) h (ci := 8) ok_18 rfl rfl kX8_refused tw_343 rfl (by decide) rfl (Nat.le_of_ble_eq_true rfl) dX8_price_24 (by decide)) (fun r_17 S_16 H locs h hM => ?_)
      exact mm_iret hC hr hlk hM h dX8_price_27
  · have h := h.1 c_3
    refine lv_aload_n hC.1 hC.2.1 dX8_price_7 rfl (lv_at hl 0 rfl) ?_
    refine lv_iconst (v := (-1)) hC.1 hC.2.1 dX8_price_8 (by decide) ?_
    obtain ⟨ok_21, h⟩ := h
    refine mm_ri hM (mm_V (As := [.int (-1)]) (rest := []) hC hM hl.1 (mX8_refused l G b0 S_1 o (-1) _) h (ci := 8) ok_21 rfl rfl kX8_refused tw_343 rfl (by decide) rfl (Nat.le_of_ble_eq_true rfl) dX8_price_9 (by decide)) (fun r_20 S_19 H locs h hM => ?_)
    exact mm_iret hC hr hlk hM h dX8_price_12
set_option maxHeartbeats 4000000 in
set_option maxRecDepth 100000 in
theorem mX8_rival (l : Launch) (G : Gt) (b0 : Nat) (S : St) (o : Nat) (x1 : Int32) (K : Int32 → St → Prop) : CI l G b0 S yX8_rival cX8_rival 2 (some .int) rmX8_rival [.ref (b0 + o), .int x1] (wX8_rival S o x1 K) K := by
  refine met_of (by decide) (Nat.le_of_ble_eq_true rfl) rfl ?_
  intro p e s m below meth c hC hr hlk hin h H locs ls hM hl
  unfold wX8_rival at h
  refine lv_aload_n hC.1 hC.2.1 dX8_rival_0 rfl (lv_at hl 0 rfl) ?_
  obtain ⟨ok_1, h⟩ := h
  refine mm_gr hC hM (ci := 8) (j := 1) ok_1 rfl (by decide) (by decide) tw_303 rfl dX8_rival_1 ?_
  refine lv_iload_n hC.1 hC.2.1 dX8_rival_4 rfl (lv_at hl 1 rfl) ?_
  obtain ⟨ok_4, h⟩ := h
  refine mm_ri hM (mm_V (As := [.int x1]) (rest := []) hC hM hl.1 (mX3_has l G b0 S (sR S o 1) x1 _) h (ci := 3) ok_4 rfl rfl kX3_has tw_452 rfl (by decide) rfl (Nat.le_of_ble_eq_true rfl) dX8_rival_5 (by decide)) (fun r_3 S_2 H locs h hM => ?_)
  refine lv_if_eq (tgt := 30) hC.1 hC.2.1 dX8_rival_8 (by decide) (fun c_5 => ?_) (fun c_5 => ?_)
  · have h := h.1 c_5
    refine lv_iconst (v := (-1)) hC.1 hC.2.1 dX8_rival_30 (by decide) ?_
    exact mm_iret hC hr hlk hM h dX8_rival_31
  · have h := h.2 c_5
    refine lv_aload_n hC.1 hC.2.1 dX8_rival_11 rfl (lv_at hl 0 rfl) ?_
    obtain ⟨ok_6, h⟩ := h
    refine mm_gr hC hM (ci := 8) (j := 5) ok_6 rfl (by decide) (by decide) tw_307 rfl dX8_rival_12 ?_
    refine lv_aload_n hC.1 hC.2.1 dX8_rival_15 rfl (lv_at hl 0 rfl) ?_
    obtain ⟨ok_7, h⟩ := h
    refine mm_gr hC hM (ci := 8) (j := 1) ⟨ok_6.1, ok_7⟩ rfl (by decide) (by decide) tw_303 rfl dX8_rival_16 ?_
    obtain ⟨ok_8, h⟩ := h
    refine mm_gr hC hM (ci := 3) (j := 1) ok_8 rfl (by decide) (by decide) tw_99 rfl dX8_rival_19 ?_
    refine lv_iload_n hC.1 hC.2.1 dX8_rival_22 rfl (lv_at hl 1 rfl) ?_
    obtain ⟨ok_9, h⟩ := h
    refine mm_il hC hM ok_9 dX8_rival_23 ?_
    obtain ⟨ok_12, h⟩ := h
    refine mm_ri hM (mm_V (As := [.int (sI S_2 (sR S_2 (sR S_2 o 1) 1) (x1 : Int32).toNatClampNeg)]) (rest := []) hC hM hl.1 (mX1_cheapestAt l G b0 S_2 (sR S_2 o 5) (sI S_2 (sR S_2 (sR S_2 o 1) 1) (x1 : Int32).toNatClampNeg) _) h (ci := 1) ok_12 rfl rfl kX1_cheapestAt tw_497 rfl (by decide) rfl (Nat.le_of_ble_eq_true rfl) dX8_rival_24 (by decide)) (fun r_11 S_10 H locs h hM => ?_)
    refine lv_goto (tgt := 31) hC.1 hC.2.1 dX8_rival_27 (by decide) ?_
    exact mm_iret hC hr hlk hM h dX8_rival_31
set_option maxHeartbeats 4000000 in
set_option maxRecDepth 100000 in
theorem mX8_rue (l : Launch) (G : Gt) (b0 : Nat) (S : St) (o : Nat) (x1 : Int32) (K : Int32 → St → Prop) : CI l G b0 S yX8_rue cX8_rue 2 (some .int) rmX8_rue [.ref (b0 + o), .int x1] (wX8_rue S o x1 K) K := by
  refine met_of (by decide) (Nat.le_of_ble_eq_true rfl) rfl ?_
  intro p e s m below meth c hC hr hlk hin h H locs ls hM hl
  unfold wX8_rue at h
  refine lv_aload_n hC.1 hC.2.1 dX8_rue_0 rfl (lv_at hl 0 rfl) ?_
  obtain ⟨ok_1, h⟩ := h
  refine mm_gr hC hM (ci := 8) (j := 1) ok_1 rfl (by decide) (by decide) tw_303 rfl dX8_rue_1 ?_
  refine lv_iload_n hC.1 hC.2.1 dX8_rue_4 rfl (lv_at hl 1 rfl) ?_
  obtain ⟨ok_4, h⟩ := h
  refine mm_ri hM (mm_V (As := [.int x1]) (rest := []) hC hM hl.1 (mX3_has l G b0 S (sR S o 1) x1 _) h (ci := 3) ok_4 rfl rfl kX3_has tw_452 rfl (by decide) rfl (Nat.le_of_ble_eq_true rfl) dX8_rue_5 (by decide)) (fun r_3 S_2 H locs h hM => ?_)
  refine lv_if_eq (tgt := 22) hC.1 hC.2.1 dX8_rue_8 (by decide) (fun c_5 => ?_) (fun c_5 => ?_)
  · have h := h.1 c_5
    refine lv_iconst (v := (-1)) hC.1 hC.2.1 dX8_rue_22 (by decide) ?_
    exact mm_iret hC hr hlk hM h dX8_rue_23
  · have h := h.2 c_5
    refine lv_aload_n hC.1 hC.2.1 dX8_rue_11 rfl (lv_at hl 0 rfl) ?_
    obtain ⟨ok_6, h⟩ := h
    refine mm_gr hC hM (ci := 8) (j := 5) ok_6 rfl (by decide) (by decide) tw_307 rfl dX8_rue_12 ?_
    refine lv_iload_n hC.1 hC.2.1 dX8_rue_15 rfl (lv_at hl 1 rfl) ?_
    obtain ⟨ok_9, h⟩ := h
    refine mm_ri hM (mm_V (As := [.int x1]) (rest := []) hC hM hl.1 (mX1_greatestRue l G b0 S_2 (sR S_2 o 5) x1 _) h (ci := 1) ok_9 rfl rfl kX1_greatestRue tw_508 rfl (by decide) rfl (Nat.le_of_ble_eq_true rfl) dX8_rue_16 (by decide)) (fun r_8 S_7 H locs h hM => ?_)
    refine lv_goto (tgt := 23) hC.1 hC.2.1 dX8_rue_19 (by decide) ?_
    exact mm_iret hC hr hlk hM h dX8_rue_23
set_option maxHeartbeats 4000000 in
set_option maxRecDepth 100000 in
theorem mX8_rueOf (l : Launch) (G : Gt) (b0 : Nat) (S : St) (o : Nat) (x1 : Int32) (K : Int32 → St → Prop) : CI l G b0 S yX8_rueOf cX8_rueOf 2 (some .int) rmX8_rueOf [.ref (b0 + o), .int x1] (wX8_rueOf S o x1 K) K := by
  refine met_of (by decide) (Nat.le_of_ble_eq_true rfl) rfl ?_
  intro p e s m below meth c hC hr hlk hin h H locs ls hM hl
  unfold wX8_rueOf at h
  refine lv_aload_n hC.1 hC.2.1 dX8_rueOf_0 rfl (lv_at hl 0 rfl) ?_
  obtain ⟨ok_1, h⟩ := h
  refine mm_gr hC hM (ci := 8) (j := 1) ok_1 rfl (by decide) (by decide) tw_303 rfl dX8_rueOf_1 ?_
  refine lv_iload_n hC.1 hC.2.1 dX8_rueOf_4 rfl (lv_at hl 1 rfl) ?_
  obtain ⟨ok_4, h⟩ := h
  refine mm_ri hM (mm_V (As := [.int x1]) (rest := []) hC hM hl.1 (mX3_has l G b0 S (sR S o 1) x1 _) h (ci := 3) ok_4 rfl rfl kX3_has tw_452 rfl (by decide) rfl (Nat.le_of_ble_eq_true rfl) dX8_rueOf_5 (by decide)) (fun r_3 S_2 H locs h hM => ?_)
  refine lv_if_eq (tgt := 21) hC.1 hC.2.1 dX8_rueOf_8 (by decide) (fun c_5 => ?_) (fun c_5 => ?_)
  · have h := h.1 c_5
    refine lv_iconst (v := (-1)) hC.1 hC.2.1 dX8_rueOf_21 (by decide) ?_
    exact mm_iret hC hr hlk hM h dX8_rueOf_22
  · have h := h.2 c_5
    refine lv_aload_n hC.1 hC.2.1 dX8_rueOf_11 rfl (lv_at hl 0 rfl) ?_
    obtain ⟨ok_6, h⟩ := h
    refine mm_gr hC hM (ci := 8) (j := 0) ok_6 rfl (by decide) (by decide) tw_302 rfl dX8_rueOf_12 ?_
    obtain ⟨ok_7, h⟩ := h
    refine mm_gi hC hM (ci := 0) (j := 3) ok_7 rfl (by decide) (by decide) tw_41 rfl dX8_rueOf_15 ?_
    refine lv_if_ne (tgt := 23) hC.1 hC.2.1 dX8_rueOf_18 (by decide) (fun c_8 => ?_) (fun c_8 => ?_)
    · have h := h.2 c_8
      refine lv_aload_n hC.1 hC.2.1 dX8_rueOf_23 rfl (lv_at hl 0 rfl) ?_
      obtain ⟨ok_9, h⟩ := h
      refine mm_gr hC hM (ci := 8) (j := 6) ⟨ok_6.1, ok_9⟩ rfl (by decide) (by decide) tw_308 rfl dX8_rueOf_24 ?_
      refine lv_iload_n hC.1 hC.2.1 dX8_rueOf_27 rfl (lv_at hl 1 rfl) ?_
      obtain ⟨ok_12, h⟩ := h
      refine mm_ri hM (mm_V (As := [.int x1]) (rest := []) hC hM hl.1 (mX2_greatestRue l G b0 S_2 (sR S_2 o 6) x1 _) h (ci := 2) ok_12 rfl rfl kX2_greatestRue tw_618 rfl (by decide) rfl (Nat.le_of_ble_eq_true rfl) dX8_rueOf_28 (by decide)) (fun r_11 S_10 H locs h hM => ?_)
      exact mm_iret hC hr hlk hM h dX8_rueOf_31
    · have h := h.1 c_8
      refine lv_iconst (v := (-1)) hC.1 hC.2.1 dX8_rueOf_21 (by decide) ?_
      exact mm_iret hC hr hlk hM h dX8_rueOf_22
set_option maxHeartbeats 4000000 in
set_option maxRecDepth 100000 in
theorem qX8_sheet_22 {p : Program} {l : Launch} {e : Env} {s : State} {m : MethodId} {args : Array Value} {below : List Frame} {meth : Method} {c : Code} {G : Gt} {b0 : Nat} (hC : CallFix p m c cX8_sheet 4 s args lw_g RX8) (hr : meth.sig.returnType = (some .int)) (hlk : meth.locks = false) {K : Int32 → St → Prop} : ∀ (x0 : Nat) (S : St) (H : Heap) (locs : List Loc) (ls : Array Slot), wX8_sheet_22 K x0 S → MM G b0 s S H locs → lv_has ls 4 [(0, .ref (b0 + x0))] → W p l e rmX8_sheet s m args below meth c H locs 0 0 (MQ below (va_Qi K (ME G b0) (AB b0)) args s 0 0 (AB b0)) (F0 m 22 ls []) := by
  intro x0 S H locs ls h hM hl
  unfold wX8_sheet_22 at h
  refine lv_aload_n hC.1 hC.2.1 dX8_sheet_22 rfl (lv_at hl 0 rfl) ?_
  refine lv_iconst (v := (-1)) hC.1 hC.2.1 dX8_sheet_23 (by decide) ?_
  obtain ⟨ok_3, h⟩ := h
  refine mm_ri hM (mm_V (As := [.int (-1)]) (rest := []) hC hM hl.1 (mX8_refused l G b0 S x0 (-1) _) h (ci := 8) ok_3 rfl rfl kX8_refused tw_343 rfl (by decide) rfl (Nat.le_of_ble_eq_true rfl) dX8_sheet_24 (by decide)) (fun r_2 S_1 H locs h hM => ?_)
  exact mm_iret hC hr hlk hM h dX8_sheet_27
set_option maxHeartbeats 4000000 in
set_option maxRecDepth 100000 in
theorem mX8_sheet (l : Launch) (G : Gt) (b0 : Nat) (S : St) (o : Nat) (x1 : Int32) (x2 : Int32) (x3 : Int32) (K : Int32 → St → Prop) : CI l G b0 S yX8_sheet cX8_sheet 4 (some .int) rmX8_sheet [.ref (b0 + o), .int x1, .int x2, .int x3] (wX8_sheet S o x1 x2 x3 K) K := by
  refine met_of (by decide) (Nat.le_of_ble_eq_true rfl) rfl ?_
  intro p e s m below meth c hC hr hlk hin h H locs ls hM hl
  unfold wX8_sheet at h
  refine lv_iload_n hC.1 hC.2.1 dX8_sheet_0 rfl (lv_at hl 1 rfl) ?_
  refine lv_iconst (v := 4) hC.1 hC.2.1 dX8_sheet_1 (by decide) ?_
  refine mm_ri hM (mm_S (As := [.int x1, .int 4]) (rest := []) hC hM hl.1 (mX8_isWithin l G b0 S x1 4 _) h kX8_isWithin tw_367 rfl (by decide) rfl (Nat.le_of_ble_eq_true rfl) dX8_sheet_2 (by decide)) (fun r_5 S_4 H locs h hM => ?_)
  refine lv_if_eq (tgt := 22) hC.1 hC.2.1 dX8_sheet_5 (by decide) (fun c_6 => ?_) (fun c_6 => ?_)
  · have h := h.1 c_6
    exact qX8_sheet_22 hC hr hlk _ _ H locs ls h hM (lv_sub hl [0] rfl)
  · have h := h.2 c_6
    refine lv_iload_n hC.1 hC.2.1 dX8_sheet_8 rfl (lv_at hl 2 rfl) ?_
    refine lv_iconst (v := 3) hC.1 hC.2.1 dX8_sheet_9 (by decide) ?_
    refine mm_ri hM (mm_S (As := [.int x2, .int 3]) (rest := []) hC hM hl.1 (mX8_isWithin l G b0 S_4 x2 3 _) h kX8_isWithin tw_367 rfl (by decide) rfl (Nat.le_of_ble_eq_true rfl) dX8_sheet_10 (by decide)) (fun r_8 S_7 H locs h hM => ?_)
    refine lv_if_eq (tgt := 22) hC.1 hC.2.1 dX8_sheet_13 (by decide) (fun c_9 => ?_) (fun c_9 => ?_)
    · have h := h.1 c_9
      exact qX8_sheet_22 hC hr hlk _ _ H locs ls h hM (lv_sub hl [0] rfl)
    · have h := h.2 c_9
      refine lv_iload_n hC.1 hC.2.1 dX8_sheet_16 rfl (lv_at hl 3 rfl) ?_
      refine lv_bipush (v := 100) hC.1 hC.2.1 dX8_sheet_17 (by decide) ?_
      refine lv_icmp_le (tgt := 28) hC.1 hC.2.1 dX8_sheet_19 (by decide) (fun c_10 => ?_) (fun c_10 => ?_)
      · have h := h.1 c_10
        refine lv_iload_n hC.1 hC.2.1 dX8_sheet_28 rfl (lv_at hl 3 rfl) ?_
        refine lv_if_ge (tgt := 48) hC.1 hC.2.1 dX8_sheet_29 (by decide) (fun c_11 => ?_) (fun c_11 => ?_)
        · have h := h.1 c_11
          refine lv_aload_n hC.1 hC.2.1 dX8_sheet_48 rfl (lv_at hl 0 rfl) ?_
          obtain ⟨ok_12, h⟩ := h
          refine mm_gr hC hM (ci := 8) (j := 2) ok_12 rfl (by decide) (by decide) tw_304 rfl dX8_sheet_49 ?_
          refine lv_iload_n hC.1 hC.2.1 dX8_sheet_52 rfl (lv_at hl 1 rfl) ?_
          obtain ⟨ok_13, h⟩ := h
          refine mm_al hC hM (t0 := 3) ok_13 (by decide) rfl rfl dX8_sheet_53 ?_
          refine lv_iload_n hC.1 hC.2.1 dX8_sheet_54 rfl (lv_at hl 2 rfl) ?_
          refine lv_iload_n hC.1 hC.2.1 dX8_sheet_55 rfl (lv_at hl 3 rfl) ?_
          obtain ⟨ok_16, h⟩ := h
          refine mm_rv hM (mm_V (As := [.int x2, .int x3]) (rest := []) hC hM hl.1 (mX4_open l G b0 S_7 (sR S_7 (sR S_7 o 2) (x1 : Int32).toNatClampNeg) x2 x3 _) h (ci := 4) ok_16 rfl rfl kX4_open tw_394 rfl (by decide) rfl (Nat.le_of_ble_eq_true rfl) dX8_sheet_56 (by decide)) (fun S_14 H locs h hM => ?_)
          refine lv_aload_n hC.1 hC.2.1 dX8_sheet_59 rfl (lv_at hl 0 rfl) ?_
          refine lv_iload_n hC.1 hC.2.1 dX8_sheet_60 rfl (lv_at hl 3 rfl) ?_
          obtain ⟨ok_19, h⟩ := h
          refine mm_ri hM (mm_V (As := [.int x3]) (rest := []) hC hM hl.1 (mX8_accepted l G b0 S_14 o x3 _) h (ci := 8) ok_19 rfl rfl kX8_accepted tw_351 rfl (by decide) rfl (Nat.le_of_ble_eq_true rfl) dX8_sheet_61 (by decide)) (fun r_18 S_17 H locs h hM => ?_)
          exact mm_iret hC hr hlk hM h dX8_sheet_64
        · have h := h.2 c_11
          refine lv_aload_n hC.1 hC.2.1 dX8_sheet_32 rfl (lv_at hl 0 rfl) ?_
          obtain ⟨ok_20, h⟩ := h
          refine mm_gr hC hM (ci := 8) (j := 2) ok_20 rfl (by decide) (by decide) tw_304 rfl dX8_sheet_33 ?_
          refine lv_iload_n hC.1 hC.2.1 dX8_sheet_36 rfl (lv_at hl 1 rfl) ?_
          obtain ⟨ok_21, h⟩ := h
          refine mm_al hC hM (t0 := 3) ok_21 (by decide) rfl rfl dX8_sheet_37 ?_
          obtain ⟨ok_24, h⟩ := h
          refine mm_rv hM (mm_V (As := []) (rest := []) hC hM hl.1 (mX4_drop l G b0 S_7 (sR S_7 (sR S_7 o 2) (x1 : Int32).toNatClampNeg) _) h (ci := 4) ok_24 rfl rfl kX4_drop tw_390 rfl (by decide) rfl (Nat.le_of_ble_eq_true rfl) dX8_sheet_38 (by decide)) (fun S_22 H locs h hM => ?_)
          refine lv_aload_n hC.1 hC.2.1 dX8_sheet_41 rfl (lv_at hl 0 rfl) ?_
          refine lv_bipush (v := (-4)) hC.1 hC.2.1 dX8_sheet_42 (by decide) ?_
          obtain ⟨ok_27, h⟩ := h
          refine mm_ri hM (mm_V (As := [.int (-4)]) (rest := []) hC hM hl.1 (mX8_refused l G b0 S_22 o (-4) _) h (ci := 8) ok_27 rfl rfl kX8_refused tw_343 rfl (by decide) rfl (Nat.le_of_ble_eq_true rfl) dX8_sheet_44 (by decide)) (fun r_26 S_25 H locs h hM => ?_)
          exact mm_iret hC hr hlk hM h dX8_sheet_47
      · have h := h.2 c_10
        exact qX8_sheet_22 hC hr hlk _ _ H locs ls h hM (lv_sub hl [0] rfl)
set_option maxHeartbeats 4000000 in
set_option maxRecDepth 100000 in
theorem mX8_status (l : Launch) (G : Gt) (b0 : Nat) (S : St) (o : Nat) (K : Int32 → St → Prop) : CI l G b0 S yX8_status cX8_status 1 (some .int) rmX8_status [.ref (b0 + o)] (wX8_status S o K) K := by
  refine met_of (by decide) (Nat.le_of_ble_eq_true rfl) rfl ?_
  intro p e s m below meth c hC hr hlk hin h H locs ls hM hl
  unfold wX8_status at h
  refine lv_aload_n hC.1 hC.2.1 dX8_status_0 rfl (lv_at hl 0 rfl) ?_
  obtain ⟨ok_1, h⟩ := h
  refine mm_gi hC hM (ci := 8) (j := 9) ok_1 rfl (by decide) (by decide) tw_311 rfl dX8_status_1 ?_
  exact mm_iret hC hr hlk hM h dX8_status_4
set_option maxHeartbeats 4000000 in
set_option maxRecDepth 100000 in
theorem mX8_thing (l : Launch) (G : Gt) (b0 : Nat) (S : St) (o : Nat) (x1 : Int32) (x2 : Int32) (K : Int32 → St → Prop) : CI l G b0 S yX8_thing cX8_thing 3 (some .int) rmX8_thing [.ref (b0 + o), .int x1, .int x2] (wX8_thing S o x1 x2 K) K := by
  refine met_of (by decide) (Nat.le_of_ble_eq_true rfl) rfl ?_
  intro p e s m below meth c hC hr hlk hin h H locs ls hM hl
  unfold wX8_thing at h
  refine lv_iload_n hC.1 hC.2.1 dX8_thing_0 rfl (lv_at hl 1 rfl) ?_
  refine lv_iload_n hC.1 hC.2.1 dX8_thing_1 rfl (lv_at hl 2 rfl) ?_
  refine mm_ri hM (mm_S (As := [.int x1, .int x2]) (rest := []) hC hM hl.1 (mX8_areEnds l G b0 S x1 x2 _) h kX8_areEnds tw_337 rfl (by decide) rfl (Nat.le_of_ble_eq_true rfl) dX8_thing_2 (by decide)) (fun r_2 S_1 H locs h hM => ?_)
  refine lv_if_ne (tgt := 14) hC.1 hC.2.1 dX8_thing_5 (by decide) (fun c_3 => ?_) (fun c_3 => ?_)
  · have h := h.2 c_3
    refine lv_aload_n hC.1 hC.2.1 dX8_thing_14 rfl (lv_at hl 0 rfl) ?_
    obtain ⟨ok_4, h⟩ := h
    refine mm_gr hC hM (ci := 8) (j := 0) ok_4 rfl (by decide) (by decide) tw_302 rfl dX8_thing_15 ?_
    obtain ⟨ok_5, h⟩ := h
    refine mm_gi hC hM (ci := 0) (j := 0) ok_5 rfl (by decide) (by decide) tw_32 rfl dX8_thing_18 ?_
    refine lv_bipush (v := 12) hC.1 hC.2.1 dX8_thing_21 (by decide) ?_
    refine lv_icmp_ne (tgt := 33) hC.1 hC.2.1 dX8_thing_23 (by decide) (fun c_6 => ?_) (fun c_6 => ?_)
    · have h := h.2 c_6
      refine lv_aload_n hC.1 hC.2.1 dX8_thing_33 rfl (lv_at hl 0 rfl) ?_
      refine mm_gr hC hM (ci := 8) (j := 0) ok_4 rfl (by decide) (by decide) tw_302 rfl dX8_thing_34 ?_
      refine lv_iload_n hC.1 hC.2.1 dX8_thing_37 rfl (lv_at hl 1 rfl) ?_
      refine lv_iload_n hC.1 hC.2.1 dX8_thing_38 rfl (lv_at hl 2 rfl) ?_
      refine mm_rv hM (mm_V (As := [.int x1, .int x2]) (rest := []) hC hM hl.1 (mX0_addThing l G b0 S_1 (sR S_1 o 0) x1 x2 _) h (ci := 0) ok_5 rfl rfl kX0_addThing tw_347 rfl (by decide) rfl (Nat.le_of_ble_eq_true rfl) dX8_thing_39 (by decide)) (fun S_7 H locs h hM => ?_)
      refine lv_aload_n hC.1 hC.2.1 dX8_thing_42 rfl (lv_at hl 0 rfl) ?_
      obtain ⟨ok_9, h⟩ := h
      refine mm_gr hC hM (ci := 8) (j := 1) ok_9 rfl (by decide) (by decide) tw_303 rfl dX8_thing_43 ?_
      refine lv_aload_n hC.1 hC.2.1 dX8_thing_46 rfl (lv_at hl 0 rfl) ?_
      obtain ⟨ok_10, h⟩ := h
      refine mm_gr hC hM (ci := 8) (j := 0) ⟨ok_9.1, ok_10⟩ rfl (by decide) (by decide) tw_302 rfl dX8_thing_47 ?_
      obtain ⟨ok_13, h⟩ := h
      refine mm_ri hM (mm_V (As := [.ref (b0 + (sR S_7 o 0))]) (rest := []) hC hM hl.1 (mX3_relist l G b0 S_7 (sR S_7 o 1) (sR S_7 o 0) _) h (ci := 3) ok_13 rfl rfl kX3_relist tw_108 rfl (by decide) rfl (Nat.le_of_ble_eq_true rfl) dX8_thing_50 (by decide)) (fun r_12 S_11 H locs h hM => ?_)
      refine lv_if_ne (tgt := 76) hC.1 hC.2.1 dX8_thing_53 (by decide) (fun c_14 => ?_) (fun c_14 => ?_)
      · have h := h.2 c_14
        refine lv_aload_n hC.1 hC.2.1 dX8_thing_76 rfl (lv_at hl 0 rfl) ?_
        refine lv_aload_n hC.1 hC.2.1 dX8_thing_77 rfl (lv_at hl 0 rfl) ?_
        obtain ⟨ok_15, h⟩ := h
        refine mm_gr hC hM (ci := 8) (j := 0) ok_15 rfl (by decide) (by decide) tw_302 rfl dX8_thing_78 ?_
        obtain ⟨ok_16, h⟩ := h
        refine mm_gi hC hM (ci := 0) (j := 0) ok_16 rfl (by decide) (by decide) tw_32 rfl dX8_thing_81 ?_
        refine lv_iconst (v := 1) hC.1 hC.2.1 dX8_thing_84 (by decide) ?_
        refine lv_isub hC.1 hC.2.1 dX8_thing_85 ?_
        refine mm_ri hM (mm_V (As := [.int ((sI S_11 (sR S_11 o 0) 0) - 1)]) (rest := []) hC hM hl.1 (mX8_accepted l G b0 S_11 o ((sI S_11 (sR S_11 o 0) 0) - 1) _) h (ci := 8) ok_15.1 rfl rfl kX8_accepted tw_351 rfl (by decide) rfl (Nat.le_of_ble_eq_true rfl) dX8_thing_86 (by decide)) (fun r_18 S_17 H locs h hM => ?_)
        exact mm_iret hC hr hlk hM h dX8_thing_89
      · have h := h.1 c_14
        refine lv_aload_n hC.1 hC.2.1 dX8_thing_56 rfl (lv_at hl 0 rfl) ?_
        obtain ⟨ok_19, h⟩ := h
        refine mm_gr hC hM (ci := 8) (j := 0) ok_19 rfl (by decide) (by decide) tw_302 rfl dX8_thing_57 ?_
        refine lv_dup hC.1 hC.2.1 dX8_thing_60 rfl ?_
        obtain ⟨ok_20, h⟩ := h
        refine mm_gi hC hM (ci := 0) (j := 0) ok_20 rfl (by decide) (by decide) tw_32 rfl dX8_thing_61 ?_
        refine lv_iconst (v := 1) hC.1 hC.2.1 dX8_thing_64 (by decide) ?_
        refine lv_isub hC.1 hC.2.1 dX8_thing_65 ?_
        refine mm_pi hC hM (ci := 0) (j := 0) (ty := .int) ok_20 rfl (by decide) (by decide) tw_32 rfl rfl (by decide +kernel) rfl rfl dX8_thing_66 (fun S_21 H locs eS_21 hM => ?_)
        have h := h S_21 eS_21
        refine lv_aload_n hC.1 hC.2.1 dX8_thing_69 rfl (lv_at hl 0 rfl) ?_
        refine lv_bipush (v := (-5)) hC.1 hC.2.1 dX8_thing_70 (by decide) ?_
        obtain ⟨ok_24, h⟩ := h
        refine mm_ri hM (mm_V (As := [.int (-5)]) (rest := []) hC hM hl.1 (mX8_refused l G b0 S_21 o (-5) _) h (ci := 8) ok_24 rfl rfl kX8_refused tw_343 rfl (by decide) rfl (Nat.le_of_ble_eq_true rfl) dX8_thing_72 (by decide)) (fun r_23 S_22 H locs h hM => ?_)
        exact mm_iret hC hr hlk hM h dX8_thing_75
    · have h := h.1 c_6
      refine lv_aload_n hC.1 hC.2.1 dX8_thing_26 rfl (lv_at hl 0 rfl) ?_
      refine lv_bipush (v := (-5)) hC.1 hC.2.1 dX8_thing_27 (by decide) ?_
      refine mm_ri hM (mm_V (As := [.int (-5)]) (rest := []) hC hM hl.1 (mX8_refused l G b0 S_1 o (-5) _) h (ci := 8) ok_4.1 rfl rfl kX8_refused tw_343 rfl (by decide) rfl (Nat.le_of_ble_eq_true rfl) dX8_thing_29 (by decide)) (fun r_26 S_25 H locs h hM => ?_)
      exact mm_iret hC hr hlk hM h dX8_thing_32
  · have h := h.1 c_3
    refine lv_aload_n hC.1 hC.2.1 dX8_thing_8 rfl (lv_at hl 0 rfl) ?_
    refine lv_iconst (v := (-1)) hC.1 hC.2.1 dX8_thing_9 (by decide) ?_
    obtain ⟨ok_29, h⟩ := h
    refine mm_ri hM (mm_V (As := [.int (-1)]) (rest := []) hC hM hl.1 (mX8_refused l G b0 S_1 o (-1) _) h (ci := 8) ok_29 rfl rfl kX8_refused tw_343 rfl (by decide) rfl (Nat.le_of_ble_eq_true rfl) dX8_thing_10 (by decide)) (fun r_28 S_27 H locs h hM => ?_)
    exact mm_iret hC hr hlk hM h dX8_thing_13
set_option maxHeartbeats 4000000 in
set_option maxRecDepth 100000 in
theorem mX8_two (l : Launch) (G : Gt) (b0 : Nat) (S : St) (o : Nat) (x1 : Int32) (K : Int32 → St → Prop) : CI l G b0 S yX8_two cX8_two 2 (some .int) rmX8_two [.ref (b0 + o), .int x1] (wX8_two S o x1 K) K := by
  refine met_of (by decide) (Nat.le_of_ble_eq_true rfl) rfl ?_
  intro p e s m below meth c hC hr hlk hin h H locs ls hM hl
  unfold wX8_two at h
  refine lv_aload_n hC.1 hC.2.1 dX8_two_0 rfl (lv_at hl 0 rfl) ?_
  refine lv_iload_n hC.1 hC.2.1 dX8_two_1 rfl (lv_at hl 1 rfl) ?_
  obtain ⟨ok_3, h⟩ := h
  refine mm_ri hM (mm_V (As := [.int x1]) (rest := []) hC hM hl.1 (mX8_isBeyondThings l G b0 S o x1 _) h (ci := 8) ok_3 rfl rfl kX8_isBeyondThings tw_473 rfl (by decide) rfl (Nat.le_of_ble_eq_true rfl) dX8_two_2 (by decide)) (fun r_2 S_1 H locs h hM => ?_)
  refine lv_if_eq (tgt := 10) hC.1 hC.2.1 dX8_two_5 (by decide) (fun c_4 => ?_) (fun c_4 => ?_)
  · have h := h.1 c_4
    refine lv_aload_n hC.1 hC.2.1 dX8_two_10 rfl (lv_at hl 0 rfl) ?_
    obtain ⟨ok_5, h⟩ := h
    refine mm_gr hC hM (ci := 8) (j := 0) ok_5 rfl (by decide) (by decide) tw_302 rfl dX8_two_11 ?_
    obtain ⟨ok_6, h⟩ := h
    refine mm_gi hC hM (ci := 0) (j := 3) ok_6 rfl (by decide) (by decide) tw_41 rfl dX8_two_14 ?_
    refine lv_if_ne (tgt := 23) hC.1 hC.2.1 dX8_two_17 (by decide) (fun c_7 => ?_) (fun c_7 => ?_)
    · have h := h.2 c_7
      refine lv_aload_n hC.1 hC.2.1 dX8_two_23 rfl (lv_at hl 0 rfl) ?_
      obtain ⟨ok_8, h⟩ := h
      refine mm_gr hC hM (ci := 8) (j := 1) ⟨ok_5.1, ok_8⟩ rfl (by decide) (by decide) tw_303 rfl dX8_two_24 ?_
      obtain ⟨ok_9, h⟩ := h
      refine mm_gi hC hM (ci := 3) (j := 0) ok_9 rfl (by decide) (by decide) tw_93 rfl dX8_two_27 ?_
      refine lv_if_ne (tgt := 38) hC.1 hC.2.1 dX8_two_30 (by decide) (fun c_10 => ?_) (fun c_10 => ?_)
      · have h := h.2 c_10
        refine lv_aload_n hC.1 hC.2.1 dX8_two_38 rfl (lv_at hl 0 rfl) ?_
        obtain ⟨ok_11, h⟩ := h
        refine mm_gr hC hM (ci := 8) (j := 8) ⟨ok_5.1, ok_11⟩ rfl (by decide) (by decide) tw_310 rfl dX8_two_39 ?_
        refine lv_iload_n hC.1 hC.2.1 dX8_two_42 rfl (lv_at hl 1 rfl) ?_
        obtain ⟨ok_14, h⟩ := h
        refine mm_ri hM (mm_V (As := [.int x1]) (rest := []) hC hM hl.1 (mX6_dearestWith l G b0 S_1 (sR S_1 o 8) x1 _) h (ci := 6) ok_14 rfl rfl kX6_dearestWith tw_705 rfl (by decide) rfl (Nat.le_of_ble_eq_true rfl) dX8_two_43 (by decide)) (fun r_13 S_12 H locs h hM => ?_)
        exact mm_iret hC hr hlk hM h dX8_two_46
      · have h := h.1 c_10
        refine lv_bipush (v := (-6)) hC.1 hC.2.1 dX8_two_33 (by decide) ?_
        refine lv_goto (tgt := 46) hC.1 hC.2.1 dX8_two_35 (by decide) ?_
        exact mm_iret hC hr hlk hM h dX8_two_46
    · have h := h.1 c_7
      refine lv_bipush (v := (-2)) hC.1 hC.2.1 dX8_two_20 (by decide) ?_
      exact mm_iret hC hr hlk hM h dX8_two_22
  · have h := h.2 c_4
    refine lv_iconst (v := (-1)) hC.1 hC.2.1 dX8_two_8 (by decide) ?_
    exact mm_iret hC hr hlk hM h dX8_two_9
set_option maxHeartbeats 4000000 in
set_option maxRecDepth 100000 in
theorem qX8_world_21 {p : Program} {l : Launch} {e : Env} {s : State} {m : MethodId} {args : Array Value} {below : List Frame} {meth : Method} {c : Code} {G : Gt} {b0 : Nat} (hC : CallFix p m c cX8_world 5 s args lw_g RX8) (hr : meth.sig.returnType = (some .int)) (hlk : meth.locks = false) {K : Int32 → St → Prop} : ∀ (x0 : Nat) (S : St) (H : Heap) (locs : List Loc) (ls : Array Slot), wX8_world_21 K x0 S → MM G b0 s S H locs → lv_has ls 5 [(0, .ref (b0 + x0))] → W p l e rmX8_world s m args below meth c H locs 0 0 (MQ below (va_Qi K (ME G b0) (AB b0)) args s 0 0 (AB b0)) (F0 m 21 ls []) := by
  intro x0 S H locs ls h hM hl
  unfold wX8_world_21 at h
  refine lv_aload_n hC.1 hC.2.1 dX8_world_21 rfl (lv_at hl 0 rfl) ?_
  refine lv_iconst (v := (-1)) hC.1 hC.2.1 dX8_world_22 (by decide) ?_
  obtain ⟨ok_3, h⟩ := h
  refine mm_ri hM (mm_V (As := [.int (-1)]) (rest := []) hC hM hl.1 (mX8_refused l G b0 S x0 (-1) _) h (ci := 8) ok_3 rfl rfl kX8_refused tw_343 rfl (by decide) rfl (Nat.le_of_ble_eq_true rfl) dX8_world_23 (by decide)) (fun r_2 S_1 H locs h hM => ?_)
  exact mm_iret hC hr hlk hM h dX8_world_26
set_option maxHeartbeats 4000000 in
set_option maxRecDepth 100000 in
theorem qX8_world_95 {p : Program} {l : Launch} {e : Env} {s : State} {m : MethodId} {args : Array Value} {below : List Frame} {meth : Method} {c : Code} {G : Gt} {b0 : Nat} (hC : CallFix p m c cX8_world 5 s args lw_g RX8) (hr : meth.sig.returnType = (some .int)) (hlk : meth.locks = false) {K : Int32 → St → Prop} : ∀ (x0 : Nat) (x1 : Int32) (S : St) (H : Heap) (locs : List Loc) (ls : Array Slot), wX8_world_95 K x0 x1 S → MM G b0 s S H locs → lv_has ls 5 [(0, .ref (b0 + x0)), (1, .int x1)] → W p l e rmX8_world s m args below meth c H locs 0 0 (MQ below (va_Qi K (ME G b0) (AB b0)) args s 0 0 (AB b0)) (F0 m 95 ls []) := by
  intro x0 x1 S H locs ls h hM hl
  unfold wX8_world_95 at h
  refine lv_aload_n hC.1 hC.2.1 dX8_world_95 rfl (lv_at hl 0 rfl) ?_
  obtain ⟨ok_4, h⟩ := h
  refine mm_gr hC hM (ci := 8) (j := 0) ok_4 rfl (by decide) (by decide) tw_302 rfl dX8_world_96 ?_
  refine lv_dup hC.1 hC.2.1 dX8_world_99 rfl ?_
  obtain ⟨ok_5, h⟩ := h
  refine mm_gi hC hM (ci := 0) (j := 3) ok_5 rfl (by decide) (by decide) tw_41 rfl dX8_world_100 ?_
  refine lv_iconst (v := 1) hC.1 hC.2.1 dX8_world_103 (by decide) ?_
  refine lv_iload_n hC.1 hC.2.1 dX8_world_104 rfl (lv_at hl 1 rfl) ?_
  refine lv_ishl hC.1 hC.2.1 dX8_world_105 ?_
  refine lv_ior hC.1 hC.2.1 dX8_world_106 ?_
  refine mm_pi hC hM (ci := 0) (j := 3) (ty := .int) ok_5 rfl (by decide) (by decide) tw_41 rfl rfl (by decide +kernel) rfl rfl dX8_world_107 (fun S_6 H locs eS_6 hM => ?_)
  have h := h S_6 eS_6
  refine lv_aload_n hC.1 hC.2.1 dX8_world_110 rfl (lv_at hl 0 rfl) ?_
  refine lv_aload_n hC.1 hC.2.1 dX8_world_111 rfl (lv_at hl 0 rfl) ?_
  obtain ⟨ok_7, h⟩ := h
  refine mm_gr hC hM (ci := 8) (j := 0) ok_7 rfl (by decide) (by decide) tw_302 rfl dX8_world_112 ?_
  obtain ⟨ok_8, h⟩ := h
  refine mm_gi hC hM (ci := 0) (j := 3) ok_8 rfl (by decide) (by decide) tw_41 rfl dX8_world_115 ?_
  refine mm_ri hM (mm_S (As := [.int (sI S_6 (sR S_6 x0 0) 3)]) (rest := [.ref (b0 + x0)]) hC hM hl.1 (mJ6_bitCount_0f7a4 l G b0 S_6 (sI S_6 (sR S_6 x0 0) 3) _) h kJ6_bitCount_0f7a4 tw_430 rfl (by decide) rfl (Nat.le_of_ble_eq_true rfl) dX8_world_118 (by decide)) (fun r_10 S_9 H locs h hM => ?_)
  obtain ⟨ok_13, h⟩ := h
  refine mm_ri hM (mm_V (As := [.int r_10]) (rest := []) hC hM hl.1 (mX8_accepted l G b0 S_9 x0 r_10 _) h (ci := 8) ok_13 rfl rfl kX8_accepted tw_351 rfl (by decide) rfl (Nat.le_of_ble_eq_true rfl) dX8_world_121 (by decide)) (fun r_12 S_11 H locs h hM => ?_)
  exact mm_iret hC hr hlk hM h dX8_world_124
set_option maxHeartbeats 4000000 in
set_option maxRecDepth 100000 in
theorem qX8_world_50 {p : Program} {l : Launch} {e : Env} {s : State} {m : MethodId} {args : Array Value} {below : List Frame} {meth : Method} {c : Code} {G : Gt} {b0 : Nat} (hC : CallFix p m c cX8_world 5 s args lw_g RX8) (hr : meth.sig.returnType = (some .int)) (hlk : meth.locks = false) {K : Int32 → St → Prop} : ∀ (n : Nat) (x0 : Nat) (x1 : Int32) (x2 : Int32) (x3 : Int32) (x4 : Int32) (S : St) (H : Heap) (locs : List Loc) (ls : Array Slot), wX8_world_50 K n x0 x1 x2 x3 x4 S → MM G b0 s S H locs → lv_has ls 5 [(0, .ref (b0 + x0)), (1, .int x1), (2, .int x2), (3, .int x3), (4, .int x4)] → W p l e rmX8_world s m args below meth c H locs 0 0 (MQ below (va_Qi K (ME G b0) (AB b0)) args s 0 0 (AB b0)) (F0 m 50 ls []) := by
  intro n
  induction n with
  | zero =>
    intro x0 x1 x2 x3 x4 S H locs ls h
    exact False.elim h
  | succ n ih =>
    intro x0 x1 x2 x3 x4 S H locs ls h hM hl
    rw [wX8_world_50] at h
    refine lv_iload hC.1 hC.2.1 dX8_world_50 (lv_at hl 4 rfl) ?_
    refine lv_aload_n hC.1 hC.2.1 dX8_world_52 rfl (lv_at hl 0 rfl) ?_
    obtain ⟨ok_14, h⟩ := h
    refine mm_gr hC hM (ci := 8) (j := 0) ok_14 rfl (by decide) (by decide) tw_302 rfl dX8_world_53 ?_
    obtain ⟨ok_15, h⟩ := h
    refine mm_gi hC hM (ci := 0) (j := 0) ok_15 rfl (by decide) (by decide) tw_32 rfl dX8_world_56 ?_
    refine lv_icmp_ge (tgt := 95) hC.1 hC.2.1 dX8_world_59 (by decide) (fun c_16 => ?_) (fun c_16 => ?_)
    · have h := h.1 c_16
      exact qX8_world_95 hC hr hlk _ _ _ H locs ls h hM (lv_sub hl [0, 1] rfl)
    · have h := h.2 c_16
      refine lv_aload_n hC.1 hC.2.1 dX8_world_62 rfl (lv_at hl 0 rfl) ?_
      refine mm_gr hC hM (ci := 8) (j := 0) ok_14 rfl (by decide) (by decide) tw_302 rfl dX8_world_63 ?_
      obtain ⟨ok_17, h⟩ := h
      refine mm_gr hC hM (ci := 0) (j := 9) ⟨ok_15, ok_17⟩ rfl (by decide) (by decide) tw_59 rfl dX8_world_66 ?_
      refine lv_iload_n hC.1 hC.2.1 dX8_world_69 rfl (lv_at hl 1 rfl) ?_
      obtain ⟨ok_18, h⟩ := h
      refine mm_al hC hM (t0 := 4) ok_18 (by decide) rfl rfl dX8_world_70 ?_
      refine lv_iload hC.1 hC.2.1 dX8_world_71 (lv_at hl 4 rfl) ?_
      refine lv_aload_n hC.1 hC.2.1 dX8_world_73 rfl (lv_at hl 0 rfl) ?_
      obtain ⟨ok_19, h⟩ := h
      refine mm_gr hC hM (ci := 8) (j := 2) ⟨ok_14.1, ok_19⟩ rfl (by decide) (by decide) tw_304 rfl dX8_world_74 ?_
      refine lv_iload_n hC.1 hC.2.1 dX8_world_77 rfl (lv_at hl 2 rfl) ?_
      obtain ⟨ok_20, h⟩ := h
      refine mm_al hC hM (t0 := 3) ok_20 (by decide) rfl rfl dX8_world_78 ?_
      refine lv_iload_n hC.1 hC.2.1 dX8_world_79 rfl (lv_at hl 3 rfl) ?_
      refine lv_i2l hC.1 hC.2.1 dX8_world_80 rfl ?_
      refine lv_iload hC.1 hC.2.1 dX8_world_81 (lv_at hl 4 rfl) ?_
      refine lv_i2l hC.1 hC.2.1 dX8_world_83 rfl ?_
      refine lv_ladd hC.1 hC.2.1 dX8_world_84 ?_
      obtain ⟨ok_23, h⟩ := h
      refine mm_ri hM (mm_V (As := [.long (((x3 : Int32).toInt64) + ((x4 : Int32).toInt64))]) (rest := [.int x4, .ref (b0 + (sR S (sR S (sR S x0 0) 9) (x1 : Int32).toNatClampNeg))]) hC hM hl.1 (mX4_numberAt l G b0 S (sR S (sR S x0 2) (x2 : Int32).toNatClampNeg) (((x3 : Int32).toInt64) + ((x4 : Int32).toInt64)) _) h (ci := 4) ok_23 rfl rfl kX4_numberAt tw_425 rfl (by decide) rfl (Nat.le_of_ble_eq_true rfl) dX8_world_85 (by decide)) (fun r_22 S_21 H locs h hM => ?_)
      obtain ⟨ok_24, h⟩ := h
      refine mm_is hC hM ok_24 dX8_world_88 (fun S_25 H locs eS_25 hM => ?_)
      have h := h S_25 eS_25
      obtain ⟨x4_26, ex4_26⟩ : ∃ y : Int32, y = x4 + 1 := ⟨_, rfl⟩
      have h := h x4_26 ex4_26
      refine lv_iinc (v := x4_26) (lv' := [(4, .int x4_26), (0, .ref (b0 + x0)), (1, .int x1), (2, .int x2), (3, .int x3)]) hC.1 hC.2.1 dX8_world_89 hl (k := 4) rfl (by rw [ex4_26]; rfl) (by decide) rfl (fun ls hl => ?_)
      refine lv_goto (tgt := 50) hC.1 hC.2.1 dX8_world_92 (by decide) ?_
      exact ih _ _ _ _ _ _ H locs ls h hM (lv_sub hl [1, 2, 3, 4, 0] rfl)
set_option maxHeartbeats 4000000 in
set_option maxRecDepth 100000 in
theorem mX8_world (l : Launch) (G : Gt) (b0 : Nat) (S : St) (o : Nat) (x1 : Int32) (x2 : Int32) (x3 : Int32) (K : Int32 → St → Prop) : CI l G b0 S yX8_world cX8_world 5 (some .int) rmX8_world [.ref (b0 + o), .int x1, .int x2, .int x3] (wX8_world S o x1 x2 x3 K) K := by
  refine met_of (by decide) (Nat.le_of_ble_eq_true rfl) rfl ?_
  intro p e s m below meth c hC hr hlk hin h H locs ls hM hl
  unfold wX8_world at h
  refine lv_iload_n hC.1 hC.2.1 dX8_world_0 rfl (lv_at hl 1 rfl) ?_
  refine lv_bipush (v := 8) hC.1 hC.2.1 dX8_world_1 (by decide) ?_
  refine mm_ri hM (mm_S (As := [.int x1, .int 8]) (rest := []) hC hM hl.1 (mX8_isWithin l G b0 S x1 8 _) h kX8_isWithin tw_367 rfl (by decide) rfl (Nat.le_of_ble_eq_true rfl) dX8_world_3 (by decide)) (fun r_28 S_27 H locs h hM => ?_)
  refine lv_if_eq (tgt := 21) hC.1 hC.2.1 dX8_world_6 (by decide) (fun c_29 => ?_) (fun c_29 => ?_)
  · have h := h.1 c_29
    exact qX8_world_21 hC hr hlk _ _ H locs ls h hM (lv_sub hl [0] rfl)
  · have h := h.2 c_29
    refine lv_iload_n hC.1 hC.2.1 dX8_world_9 rfl (lv_at hl 2 rfl) ?_
    refine lv_iconst (v := 4) hC.1 hC.2.1 dX8_world_10 (by decide) ?_
    refine mm_ri hM (mm_S (As := [.int x2, .int 4]) (rest := []) hC hM hl.1 (mX8_isWithin l G b0 S_27 x2 4 _) h kX8_isWithin tw_367 rfl (by decide) rfl (Nat.le_of_ble_eq_true rfl) dX8_world_11 (by decide)) (fun r_31 S_30 H locs h hM => ?_)
    refine lv_if_eq (tgt := 21) hC.1 hC.2.1 dX8_world_14 (by decide) (fun c_32 => ?_) (fun c_32 => ?_)
    · have h := h.1 c_32
      exact qX8_world_21 hC hr hlk _ _ H locs ls h hM (lv_sub hl [0] rfl)
    · have h := h.2 c_32
      refine lv_iload_n hC.1 hC.2.1 dX8_world_17 rfl (lv_at hl 3 rfl) ?_
      refine lv_if_ge (tgt := 27) hC.1 hC.2.1 dX8_world_18 (by decide) (fun c_33 => ?_) (fun c_33 => ?_)
      · have h := h.1 c_33
        refine lv_aload_n hC.1 hC.2.1 dX8_world_27 rfl (lv_at hl 0 rfl) ?_
        refine lv_aload_n hC.1 hC.2.1 dX8_world_28 rfl (lv_at hl 0 rfl) ?_
        obtain ⟨ok_34, h⟩ := h
        refine mm_gr hC hM (ci := 8) (j := 2) ok_34 rfl (by decide) (by decide) tw_304 rfl dX8_world_29 ?_
        refine lv_iload_n hC.1 hC.2.1 dX8_world_32 rfl (lv_at hl 2 rfl) ?_
        obtain ⟨ok_35, h⟩ := h
        refine mm_al hC hM (t0 := 3) ok_35 (by decide) rfl rfl dX8_world_33 ?_
        refine lv_iload_n hC.1 hC.2.1 dX8_world_34 rfl (lv_at hl 3 rfl) ?_
        refine mm_ri hM (mm_V (As := [.ref (b0 + (sR S_30 (sR S_30 o 2) (x2 : Int32).toNatClampNeg)), .int x3]) (rest := []) hC hM hl.1 (mX8_holdsCosts l G b0 S_30 o (sR S_30 (sR S_30 o 2) (x2 : Int32).toNatClampNeg) x3 _) h (ci := 8) ok_34.1 rfl rfl kX8_holdsCosts tw_421 rfl (by decide) rfl (Nat.le_of_ble_eq_true rfl) dX8_world_35 (by decide)) (fun r_37 S_36 H locs h hM => ?_)
        refine lv_if_ne (tgt := 47) hC.1 hC.2.1 dX8_world_38 (by decide) (fun c_38 => ?_) (fun c_38 => ?_)
        · have h := h.2 c_38
          refine lv_iconst (v := 0) hC.1 hC.2.1 dX8_world_47 (by decide) ?_
          refine lv_istore (lv' := [(4, .int 0), (0, .ref (b0 + o)), (1, .int x1), (2, .int x2), (3, .int x3)]) hC.1 hC.2.1 dX8_world_48 hl (by decide) rfl (fun ls hl => ?_)
          obtain ⟨n1, h⟩ := h
          exact qX8_world_50 hC hr hlk n1 _ _ _ _ _ _ H locs ls h hM (lv_sub hl [1, 2, 3, 4, 0] rfl)
        · have h := h.1 c_38
          refine lv_aload_n hC.1 hC.2.1 dX8_world_41 rfl (lv_at hl 0 rfl) ?_
          refine lv_iconst (v := (-1)) hC.1 hC.2.1 dX8_world_42 (by decide) ?_
          obtain ⟨ok_41, h⟩ := h
          refine mm_ri hM (mm_V (As := [.int (-1)]) (rest := []) hC hM hl.1 (mX8_refused l G b0 S_36 o (-1) _) h (ci := 8) ok_41 rfl rfl kX8_refused tw_343 rfl (by decide) rfl (Nat.le_of_ble_eq_true rfl) dX8_world_43 (by decide)) (fun r_40 S_39 H locs h hM => ?_)
          exact mm_iret hC hr hlk hM h dX8_world_46
      · have h := h.2 c_33
        exact qX8_world_21 hC hr hlk _ _ H locs ls h hM (lv_sub hl [0] rfl)
set_option maxHeartbeats 4000000 in
set_option maxRecDepth 100000 in
theorem mX8_write (l : Launch) (G : Gt) (b0 : Nat) (S : St) (o : Nat) (x1 : Int32) (x2 : Int32) (x3 : Int32) (K : Int32 → St → Prop) : CI l G b0 S yX8_write cX8_write 4 (some .int) rmX8_write [.ref (b0 + o), .int x1, .int x2, .int x3] (wX8_write S o x1 x2 x3 K) K := by
  refine met_of (by decide) (Nat.le_of_ble_eq_true rfl) rfl ?_
  intro p e s m below meth c hC hr hlk hin h H locs ls hM hl
  unfold wX8_write at h
  refine lv_iload_n hC.1 hC.2.1 dX8_write_0 rfl (lv_at hl 1 rfl) ?_
  refine lv_iconst (v := 4) hC.1 hC.2.1 dX8_write_1 (by decide) ?_
  refine mm_ri hM (mm_S (As := [.int x1, .int 4]) (rest := []) hC hM hl.1 (mX8_isWithin l G b0 S x1 4 _) h kX8_isWithin tw_367 rfl (by decide) rfl (Nat.le_of_ble_eq_true rfl) dX8_write_2 (by decide)) (fun r_2 S_1 H locs h hM => ?_)
  refine lv_if_ne (tgt := 14) hC.1 hC.2.1 dX8_write_5 (by decide) (fun c_3 => ?_) (fun c_3 => ?_)
  · have h := h.2 c_3
    refine lv_aload_n hC.1 hC.2.1 dX8_write_14 rfl (lv_at hl 0 rfl) ?_
    obtain ⟨ok_4, h⟩ := h
    refine mm_gr hC hM (ci := 8) (j := 2) ok_4 rfl (by decide) (by decide) tw_304 rfl dX8_write_15 ?_
    refine lv_iload_n hC.1 hC.2.1 dX8_write_18 rfl (lv_at hl 1 rfl) ?_
    obtain ⟨ok_5, h⟩ := h
    refine mm_al hC hM (t0 := 3) ok_5 (by decide) rfl rfl dX8_write_19 ?_
    obtain ⟨ok_8, h⟩ := h
    refine mm_ri hM (mm_V (As := []) (rest := []) hC hM hl.1 (mX4_isMissing l G b0 S_1 (sR S_1 (sR S_1 o 2) (x1 : Int32).toNatClampNeg) _) h (ci := 4) ok_8 rfl rfl kX4_isMissing tw_405 rfl (by decide) rfl (Nat.le_of_ble_eq_true rfl) dX8_write_20 (by decide)) (fun r_7 S_6 H locs h hM => ?_)
    refine lv_if_eq (tgt := 33) hC.1 hC.2.1 dX8_write_23 (by decide) (fun c_9 => ?_) (fun c_9 => ?_)
    · have h := h.1 c_9
      refine lv_aload_n hC.1 hC.2.1 dX8_write_33 rfl (lv_at hl 0 rfl) ?_
      obtain ⟨ok_10, h⟩ := h
      refine mm_gr hC hM (ci := 8) (j := 2) ok_10 rfl (by decide) (by decide) tw_304 rfl dX8_write_34 ?_
      refine lv_iload_n hC.1 hC.2.1 dX8_write_37 rfl (lv_at hl 1 rfl) ?_
      obtain ⟨ok_11, h⟩ := h
      refine mm_al hC hM (t0 := 3) ok_11 (by decide) rfl rfl dX8_write_38 ?_
      refine lv_iload_n hC.1 hC.2.1 dX8_write_39 rfl (lv_at hl 2 rfl) ?_
      refine lv_i2l hC.1 hC.2.1 dX8_write_40 rfl ?_
      obtain ⟨ok_14, h⟩ := h
      refine mm_ri hM (mm_V (As := [.long ((x2 : Int32).toInt64)]) (rest := []) hC hM hl.1 (mX4_hasPlace l G b0 S_6 (sR S_6 (sR S_6 o 2) (x1 : Int32).toNatClampNeg) ((x2 : Int32).toInt64) _) h (ci := 4) ok_14 rfl rfl kX4_hasPlace tw_409 rfl (by decide) rfl (Nat.le_of_ble_eq_true rfl) dX8_write_41 (by decide)) (fun r_13 S_12 H locs h hM => ?_)
      refine lv_if_ne (tgt := 54) hC.1 hC.2.1 dX8_write_44 (by decide) (fun c_15 => ?_) (fun c_15 => ?_)
      · have h := h.2 c_15
        refine lv_aload_n hC.1 hC.2.1 dX8_write_54 rfl (lv_at hl 0 rfl) ?_
        obtain ⟨ok_16, h⟩ := h
        refine mm_gr hC hM (ci := 8) (j := 2) ok_16 rfl (by decide) (by decide) tw_304 rfl dX8_write_55 ?_
        refine lv_iload_n hC.1 hC.2.1 dX8_write_58 rfl (lv_at hl 1 rfl) ?_
        obtain ⟨ok_17, h⟩ := h
        refine mm_al hC hM (t0 := 3) ok_17 (by decide) rfl rfl dX8_write_59 ?_
        refine lv_iload_n hC.1 hC.2.1 dX8_write_60 rfl (lv_at hl 2 rfl) ?_
        refine lv_iload_n hC.1 hC.2.1 dX8_write_61 rfl (lv_at hl 3 rfl) ?_
        obtain ⟨ok_20, h⟩ := h
        refine mm_rv hM (mm_V (As := [.int x2, .int x3]) (rest := []) hC hM hl.1 (mX4_put l G b0 S_12 (sR S_12 (sR S_12 o 2) (x1 : Int32).toNatClampNeg) x2 x3 _) h (ci := 4) ok_20 rfl rfl kX4_put tw_413 rfl (by decide) rfl (Nat.le_of_ble_eq_true rfl) dX8_write_62 (by decide)) (fun S_18 H locs h hM => ?_)
        refine lv_aload_n hC.1 hC.2.1 dX8_write_65 rfl (lv_at hl 0 rfl) ?_
        refine lv_iconst (v := 0) hC.1 hC.2.1 dX8_write_66 (by decide) ?_
        obtain ⟨ok_23, h⟩ := h
        refine mm_ri hM (mm_V (As := [.int 0]) (rest := []) hC hM hl.1 (mX8_accepted l G b0 S_18 o 0 _) h (ci := 8) ok_23 rfl rfl kX8_accepted tw_351 rfl (by decide) rfl (Nat.le_of_ble_eq_true rfl) dX8_write_67 (by decide)) (fun r_22 S_21 H locs h hM => ?_)
        exact mm_iret hC hr hlk hM h dX8_write_70
      · have h := h.1 c_15
        refine lv_aload_n hC.1 hC.2.1 dX8_write_47 rfl (lv_at hl 0 rfl) ?_
        refine lv_bipush (v := (-3)) hC.1 hC.2.1 dX8_write_48 (by decide) ?_
        obtain ⟨ok_26, h⟩ := h
        refine mm_ri hM (mm_V (As := [.int (-3)]) (rest := []) hC hM hl.1 (mX8_refused l G b0 S_12 o (-3) _) h (ci := 8) ok_26 rfl rfl kX8_refused tw_343 rfl (by decide) rfl (Nat.le_of_ble_eq_true rfl) dX8_write_50 (by decide)) (fun r_25 S_24 H locs h hM => ?_)
        exact mm_iret hC hr hlk hM h dX8_write_53
    · have h := h.2 c_9
      refine lv_aload_n hC.1 hC.2.1 dX8_write_26 rfl (lv_at hl 0 rfl) ?_
      refine lv_bipush (v := (-2)) hC.1 hC.2.1 dX8_write_27 (by decide) ?_
      obtain ⟨ok_29, h⟩ := h
      refine mm_ri hM (mm_V (As := [.int (-2)]) (rest := []) hC hM hl.1 (mX8_refused l G b0 S_6 o (-2) _) h (ci := 8) ok_29 rfl rfl kX8_refused tw_343 rfl (by decide) rfl (Nat.le_of_ble_eq_true rfl) dX8_write_29 (by decide)) (fun r_28 S_27 H locs h hM => ?_)
      exact mm_iret hC hr hlk hM h dX8_write_32
  · have h := h.1 c_3
    refine lv_aload_n hC.1 hC.2.1 dX8_write_8 rfl (lv_at hl 0 rfl) ?_
    refine lv_iconst (v := (-1)) hC.1 hC.2.1 dX8_write_9 (by decide) ?_
    obtain ⟨ok_32, h⟩ := h
    refine mm_ri hM (mm_V (As := [.int (-1)]) (rest := []) hC hM hl.1 (mX8_refused l G b0 S_1 o (-1) _) h (ci := 8) ok_32 rfl rfl kX8_refused tw_343 rfl (by decide) rfl (Nat.le_of_ble_eq_true rfl) dX8_write_10 (by decide)) (fun r_31 S_30 H locs h hM => ?_)
    exact mm_iret hC hr hlk hM h dX8_write_13
