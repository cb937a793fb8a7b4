set_option maxHeartbeats 4000000 in
set_option maxRecDepth 100000 in
theorem mX4_drop (l : Launch) (G : Gt) (b0 : Nat) (S : St) (o : Nat) (K : St → Prop) : CV l G b0 S yX4_drop cX4_drop 1 none rmX4_drop [.ref (b0 + o)] (wX4_drop S o K) K := by
  refine met_of (by decide) (Nat.le_of_ble_eq_true rfl) rfl ?_
  intro p e s m below meth c hC hr hlk hin h H locs ls hM hl
  unfold wX4_drop at h
  refine lv_aload_n hC.1 hC.2.1 dX4_drop_0 rfl (lv_at hl 0 rfl) ?_
  refine lv_iconst (v := (-1)) hC.1 hC.2.1 dX4_drop_1 (by decide) ?_
  obtain ⟨ok_1, h⟩ := h
  refine mm_pi hC hM (ci := 4) (j := 2) (ty := .int) ok_1 rfl (by decide) (by decide) tw_147 rfl rfl (by decide +kernel) rfl rfl dX4_drop_2 (fun S_2 H locs eS_2 hM => ?_)
  have h := h S_2 eS_2
  exact mm_vret hC hr hlk hM h dX4_drop_5
set_option maxHeartbeats 4000000 in
set_option maxRecDepth 100000 in
theorem mX4_hasPlace (l : Launch) (G : Gt) (b0 : Nat) (S : St) (o : Nat) (x1 : Int64) (K : Int32 → St → Prop) : CI l G b0 S yX4_hasPlace cX4_hasPlace 3 (some .boolean) rmX4_hasPlace [.ref (b0 + o), .long x1] (wX4_hasPlace S o x1 K) K := by
  refine met_of (by decide) (Nat.le_of_ble_eq_true rfl) rfl ?_
  intro p e s m below meth c hC hr hlk hin h H locs ls hM hl
  unfold wX4_hasPlace at h
  refine lv_lload_n hC.1 hC.2.1 dX4_hasPlace_0 rfl (lv_at hl 1 rfl) ?_
  refine lv_lconst (v := 0) hC.1 hC.2.1 dX4_hasPlace_1 (by decide) ?_
  refine W.lcmp hC.1 hC.2.1 dX4_hasPlace_2 ?_
  refine lv_if_lt (tgt := 20) hC.1 hC.2.1 dX4_hasPlace_3 (by decide) (fun c_1 => ?_) (fun c_1 => ?_)
  · have h := h.1 c_1
    refine lv_iconst (v := 0) hC.1 hC.2.1 dX4_hasPlace_20 (by decide) ?_
    exact mm_zret hC hr hlk hM rfl h dX4_hasPlace_21
  · have h := h.2 c_1
    refine lv_lload_n hC.1 hC.2.1 dX4_hasPlace_6 rfl (lv_at hl 1 rfl) ?_
    refine lv_aload_n hC.1 hC.2.1 dX4_hasPlace_7 rfl (lv_at hl 0 rfl) ?_
    obtain ⟨ok_2, h⟩ := h
    refine mm_gi hC hM (ci := 4) (j := 2) ok_2 rfl (by decide) (by decide) tw_147 rfl dX4_hasPlace_8 ?_
    refine lv_i2l hC.1 hC.2.1 dX4_hasPlace_11 rfl ?_
    refine W.lcmp hC.1 hC.2.1 dX4_hasPlace_12 ?_
    refine lv_if_ge (tgt := 20) hC.1 hC.2.1 dX4_hasPlace_13 (by decide) (fun c_3 => ?_) (fun c_3 => ?_)
    · have h := h.1 c_3
      refine lv_iconst (v := 0) hC.1 hC.2.1 dX4_hasPlace_20 (by decide) ?_
      exact mm_zret hC hr hlk hM rfl h dX4_hasPlace_21
    · have h := h.2 c_3
      refine lv_iconst (v := 1) hC.1 hC.2.1 dX4_hasPlace_16 (by decide) ?_
      refine lv_goto (tgt := 21) hC.1 hC.2.1 dX4_hasPlace_17 (by decide) ?_
      exact mm_zret hC hr hlk hM rfl h dX4_hasPlace_21
set_option maxHeartbeats 4000000 in
set_option maxRecDepth 100000 in
theorem mX4_isMissing (l : Launch) (G : Gt) (b0 : Nat) (S : St) (o : Nat) (K : Int32 → St → Prop) : CI l G b0 S yX4_isMissing cX4_isMissing 1 (some .boolean) rmX4_isMissing [.ref (b0 + o)] (wX4_isMissing S o K) K := by
  refine met_of (by decide) (Nat.le_of_ble_eq_true rfl) rfl ?_
  intro p e s m below meth c hC hr hlk hin h H locs ls hM hl
  unfold wX4_isMissing at h
  refine lv_aload_n hC.1 hC.2.1 dX4_isMissing_0 rfl (lv_at hl 0 rfl) ?_
  obtain ⟨ok_1, h⟩ := h
  refine mm_gi hC hM (ci := 4) (j := 2) ok_1 rfl (by decide) (by decide) tw_147 rfl dX4_isMissing_1 ?_
  refine lv_iconst (v := (-1)) hC.1 hC.2.1 dX4_isMissing_4 (by decide) ?_
  refine lv_icmp_ne (tgt := 12) hC.1 hC.2.1 dX4_isMissing_5 (by decide) (fun c_2 => ?_) (fun c_2 => ?_)
  · have h := h.2 c_2
    refine lv_iconst (v := 0) hC.1 hC.2.1 dX4_isMissing_12 (by decide) ?_
    exact mm_zret hC hr hlk hM rfl h dX4_isMissing_13
  · have h := h.1 c_2
    refine lv_iconst (v := 1) hC.1 hC.2.1 dX4_isMissing_8 (by decide) ?_
    refine lv_goto (tgt := 13) hC.1 hC.2.1 dX4_isMissing_9 (by decide) ?_
    exact mm_zret hC hr hlk hM rfl h dX4_isMissing_13
set_option maxHeartbeats 4000000 in
set_option maxRecDepth 100000 in
theorem mX4_numberAt (l : Launch) (G : Gt) (b0 : Nat) (S : St) (o : Nat) (x1 : Int64) (K : Int32 → St → Prop) : CI l G b0 S yX4_numberAt cX4_numberAt 3 (some .int) rmX4_numberAt [.ref (b0 + o), .long x1] (wX4_numberAt S o x1 K) K := by
  refine met_of (by decide) (Nat.le_of_ble_eq_true rfl) rfl ?_
  intro p e s m below meth c hC hr hlk hin h H locs ls hM hl
  unfold wX4_numberAt at h
  refine lv_aload_n hC.1 hC.2.1 dX4_numberAt_0 rfl (lv_at hl 0 rfl) ?_
  refine lv_lload_n hC.1 hC.2.1 dX4_numberAt_1 rfl (lv_at hl 1 rfl) ?_
  obtain ⟨ok_3, h⟩ := h
  refine mm_ri hM (mm_V (As := [.long x1]) (rest := []) hC hM hl.1 (mX4_hasPlace l G b0 S o x1 _) h (ci := 4) ok_3 rfl rfl kX4_hasPlace tw_429 rfl (by decide) rfl (Nat.le_of_ble_eq_true rfl) dX4_numberAt_2 (by decide)) (fun r_2 S_1 H locs h hM => ?_)
  refine lv_if_eq (tgt := 18) hC.1 hC.2.1 dX4_numberAt_5 (by decide) (fun c_4 => ?_) (fun c_4 => ?_)
  · have h := h.1 c_4
    refine lv_iconst (v := 0) hC.1 hC.2.1 dX4_numberAt_18 (by decide) ?_
    exact mm_iret hC hr hlk hM h dX4_numberAt_19
  · have h := h.2 c_4
    refine lv_aload_n hC.1 hC.2.1 dX4_numberAt_8 rfl (lv_at hl 0 rfl) ?_
    obtain ⟨ok_5, h⟩ := h
    refine mm_gr hC hM (ci := 4) (j := 0) ok_5 rfl (by decide) (by decide) tw_145 rfl dX4_numberAt_9 ?_
    refine lv_lload_n hC.1 hC.2.1 dX4_numberAt_12 rfl (lv_at hl 1 rfl) ?_
    refine lv_l2i hC.1 hC.2.1 dX4_numberAt_13 rfl ?_
    obtain ⟨ok_6, h⟩ := h
    refine mm_il hC hM ok_6 dX4_numberAt_14 ?_
    refine lv_goto (tgt := 19) hC.1 hC.2.1 dX4_numberAt_15 (by decide) ?_
    exact mm_iret hC hr hlk hM h dX4_numberAt_19
set_option maxHeartbeats 4000000 in
set_option maxRecDepth 100000 in
theorem mX4_open (l : Launch) (G : Gt) (b0 : Nat) (S : St) (o : Nat) (x1 : Int32) (x2 : Int32) (K : St → Prop) : CV l G b0 S yX4_open cX4_open 3 none rmX4_open [.ref (b0 + o), .int x1, .int x2] (wX4_open S o x1 x2 K) K := by
  refine met_of (by decide) (Nat.le_of_ble_eq_true rfl) rfl ?_
  intro p e s m below meth c hC hr hlk hin h H locs ls hM hl
  unfold wX4_open at h
  refine lv_aload_n hC.1 hC.2.1 dX4_open_0 rfl (lv_at hl 0 rfl) ?_
  refine lv_iload_n hC.1 hC.2.1 dX4_open_1 rfl (lv_at hl 1 rfl) ?_
  obtain ⟨ok_1, h⟩ := h
  refine mm_pi hC hM (ci := 4) (j := 1) (ty := .int) ok_1 rfl (by decide) (by decide) tw_146 rfl rfl (by decide +kernel) rfl rfl dX4_open_2 (fun S_2 H locs eS_2 hM => ?_)
  have h := h S_2 eS_2
  refine lv_aload_n hC.1 hC.2.1 dX4_open_5 rfl (lv_at hl 0 rfl) ?_
  refine lv_iload_n hC.1 hC.2.1 dX4_open_6 rfl (lv_at hl 2 rfl) ?_
  obtain ⟨ok_3, h⟩ := h
  refine mm_pi hC hM (ci := 4) (j := 2) (ty := .int) ok_3 rfl (by decide) (by decide) tw_147 rfl rfl (by decide +kernel) rfl rfl dX4_open_7 (fun S_4 H locs eS_4 hM => ?_)
  have h := h S_4 eS_4
  refine lv_aload_n hC.1 hC.2.1 dX4_open_10 rfl (lv_at hl 0 rfl) ?_
  obtain ⟨ok_5, h⟩ := h
  refine mm_gr hC hM (ci := 4) (j := 0) ok_5 rfl (by decide) (by decide) tw_145 rfl dX4_open_11 ?_
  refine lv_iconst (v := 0) hC.1 hC.2.1 dX4_open_14 (by decide) ?_
  refine mm_rv hM (mm_S (As := [.ref (b0 + (sR S_4 o 0)), .int 0]) (rest := []) hC hM hl.1 (mJ7_fill_53178 l G b0 S_4 (sR S_4 o 0) 0 _) h kJ7_fill_53178 tw_398 rfl (by decide) rfl (Nat.le_of_ble_eq_true rfl) dX4_open_15 (by decide)) (fun S_6 H locs h hM => ?_)
  exact mm_vret hC hr hlk hM h dX4_open_18
set_option maxHeartbeats 4000000 in
set_option maxRecDepth 100000 in
theorem mX4_put (l : Launch) (G : Gt) (b0 : Nat) (S : St) (o : Nat) (x1 : Int32) (x2 : Int32) (K : St → Prop) : CV l G b0 S yX4_put cX4_put 3 none rmX4_put [.ref (b0 + o), .int x1, .int x2] (wX4_put S o x1 x2 K) K := by
  refine met_of (by decide) (Nat.le_of_ble_eq_true rfl) rfl ?_
  intro p e s m below meth c hC hr hlk hin h H locs ls hM hl
  unfold wX4_put at h
  refine lv_aload_n hC.1 hC.2.1 dX4_put_0 rfl (lv_at hl 0 rfl) ?_
  obtain ⟨ok_1, h⟩ := h
  refine mm_gi hC hM (ci := 4) (j := 1) ok_1 rfl (by decide) (by decide) tw_146 rfl dX4_put_1 ?_
  refine lv_if_ne (tgt := 18) hC.1 hC.2.1 dX4_put_4 (by decide) (fun c_2 => ?_) (fun c_2 => ?_)
  · have h := h.2 c_2
    refine lv_aload_n hC.1 hC.2.1 dX4_put_18 rfl (lv_at hl 0 rfl) ?_
    refine mm_gi hC hM (ci := 4) (j := 1) ok_1 rfl (by decide) (by decide) tw_146 rfl dX4_put_19 ?_
    refine lv_iconst (v := 1) hC.1 hC.2.1 dX4_put_22 (by decide) ?_
    refine lv_icmp_ne (tgt := 37) hC.1 hC.2.1 dX4_put_23 (by decide) (fun c_3 => ?_) (fun c_3 => ?_)
    · have h := h.2 c_3
      refine lv_aload_n hC.1 hC.2.1 dX4_put_37 rfl (lv_at hl 0 rfl) ?_
      obtain ⟨ok_4, h⟩ := h
      refine mm_gr hC hM (ci := 4) (j := 0) ⟨ok_1, ok_4⟩ rfl (by decide) (by decide) tw_145 rfl dX4_put_38 ?_
      refine lv_iload_n hC.1 hC.2.1 dX4_put_41 rfl (lv_at hl 1 rfl) ?_
      refine lv_iload_n hC.1 hC.2.1 dX4_put_42 rfl (lv_at hl 2 rfl) ?_
      obtain ⟨ok_5, h⟩ := h
      refine mm_is hC hM ok_5 dX4_put_43 (fun S_6 H locs eS_6 hM => ?_)
      have h := h S_6 eS_6
      exact mm_vret hC hr hlk hM h dX4_put_44
    · have h := h.1 c_3
      refine lv_aload_n hC.1 hC.2.1 dX4_put_26 rfl (lv_at hl 0 rfl) ?_
      obtain ⟨ok_7, h⟩ := h
      refine mm_gr hC hM (ci := 4) (j := 0) ⟨ok_1, ok_7⟩ rfl (by decide) (by decide) tw_145 rfl dX4_put_27 ?_
      refine lv_iload_n hC.1 hC.2.1 dX4_put_30 rfl (lv_at hl 1 rfl) ?_
      refine lv_iload_n hC.1 hC.2.1 dX4_put_31 rfl (lv_at hl 2 rfl) ?_
      refine lv_i2s hC.1 hC.2.1 dX4_put_32 rfl ?_
      obtain ⟨ok_8, h⟩ := h
      refine mm_is hC hM ok_8 dX4_put_33 (fun S_9 H locs eS_9 hM => ?_)
      have h := h S_9 eS_9
      refine lv_goto (tgt := 44) hC.1 hC.2.1 dX4_put_34 (by decide) ?_
      exact mm_vret hC hr hlk hM h dX4_put_44
  · have h := h.1 c_2
    refine lv_aload_n hC.1 hC.2.1 dX4_put_7 rfl (lv_at hl 0 rfl) ?_
    obtain ⟨ok_10, h⟩ := h
    refine mm_gr hC hM (ci := 4) (j := 0) ⟨ok_1, ok_10⟩ rfl (by decide) (by decide) tw_145 rfl dX4_put_8 ?_
    refine lv_iload_n hC.1 hC.2.1 dX4_put_11 rfl (lv_at hl 1 rfl) ?_
    refine lv_iload_n hC.1 hC.2.1 dX4_put_12 rfl (lv_at hl 2 rfl) ?_
    refine lv_i2b hC.1 hC.2.1 dX4_put_13 rfl ?_
    obtain ⟨ok_11, h⟩ := h
    refine mm_is hC hM ok_11 dX4_put_14 (fun S_12 H locs eS_12 hM => ?_)
    have h := h S_12 eS_12
    refine lv_goto (tgt := 44) hC.1 hC.2.1 dX4_put_15 (by decide) ?_
    exact mm_vret hC hr hlk hM h dX4_put_44
