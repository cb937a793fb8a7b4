set_option maxHeartbeats 4000000 in
set_option maxRecDepth 100000 in
theorem mX0_init (l : Launch) (G : Gt) (b0 : Nat) (S : St) (o : Nat) (K : St → Prop) : CV l G b0 S yX0_init cX0_init 1 none rmX0_init [.ref (b0 + o)] (wX0_init S o K) K := by
  refine met_of (by decide) (Nat.le_of_ble_eq_true rfl) rfl ?_
  intro p e s m below meth c hC hr hlk hin h H locs ls hM hl
  unfold wX0_init at h
  refine lv_aload_n hC.1 hC.2.1 dX0_init_0 rfl (lv_at hl 0 rfl) ?_
  refine mm_obj hC hl.1 tw_28 tw_21 tw_22 dX0_init_1 (by decide) (Nat.le_of_ble_eq_true rfl) ?_
  refine lv_aload_n hC.1 hC.2.1 dX0_init_4 rfl (lv_at hl 0 rfl) ?_
  refine lv_bipush (v := 12) hC.1 hC.2.1 dX0_init_5 (by decide) ?_
  obtain ⟨ok_1, h⟩ := h
  refine mm_newI hC hM (N := 12) ok_1 (by decide) (by decide) (by decide) (by decide) (by decide) dX0_init_7 (fun S_2 H eS_2 hM => ?_)
  have h := h S_2 eS_2
  obtain ⟨ok_3, h⟩ := h
  obtain ⟨nz_5, h⟩ := h
  refine mm_prF hC hM (hin rfl) (ci := 0) (j := 4) (ty := (.array .int)) ok_3 nz_5 rfl (by decide) (by decide) tw_42 rfl rfl rfl (by decide +kernel) (fun _ => rfl) (fun _ => rfl) dX0_init_9 (fun S_4 H locs eS_4 hM => ?_)
  have h := h S_4 eS_4
  refine lv_aload_n hC.1 hC.2.1 dX0_init_12 rfl (lv_at hl 0 rfl) ?_
  refine lv_bipush (v := 12) hC.1 hC.2.1 dX0_init_13 (by decide) ?_
  obtain ⟨ok_6, h⟩ := h
  refine mm_newI hC hM (N := 12) ok_6 (by decide) (by decide) (by decide) (by decide) (by decide) dX0_init_15 (fun S_7 H eS_7 hM => ?_)
  have h := h S_7 eS_7
  obtain ⟨ok_8, h⟩ := h
  obtain ⟨nz_10, h⟩ := h
  refine mm_prF hC hM (hin rfl) (ci := 0) (j := 5) (ty := (.array .int)) ok_8 nz_10 rfl (by decide) (by decide) tw_45 rfl rfl rfl (by decide +kernel) (fun _ => rfl) (fun _ => rfl) dX0_init_17 (fun S_9 H locs eS_9 hM => ?_)
  have h := h S_9 eS_9
  refine lv_aload_n hC.1 hC.2.1 dX0_init_20 rfl (lv_at hl 0 rfl) ?_
  refine lv_bipush (v := 12) hC.1 hC.2.1 dX0_init_21 (by decide) ?_
  obtain ⟨ok_11, h⟩ := h
  refine mm_newI hC hM (N := 12) ok_11 (by decide) (by decide) (by decide) (by decide) (by decide) dX0_init_23 (fun S_12 H eS_12 hM => ?_)
  have h := h S_12 eS_12
  obtain ⟨ok_13, h⟩ := h
  obtain ⟨nz_15, h⟩ := h
  refine mm_prF hC hM (hin rfl) (ci := 0) (j := 6) (ty := (.array .int)) ok_13 nz_15 rfl (by decide) (by decide) tw_48 rfl rfl rfl (by decide +kernel) (fun _ => rfl) (fun _ => rfl) dX0_init_25 (fun S_14 H locs eS_14 hM => ?_)
  have h := h S_14 eS_14
  refine lv_aload_n hC.1 hC.2.1 dX0_init_28 rfl (lv_at hl 0 rfl) ?_
  refine lv_bipush (v := 12) hC.1 hC.2.1 dX0_init_29 (by decide) ?_
  obtain ⟨ok_16, h⟩ := h
  refine mm_newI hC hM (N := 12) ok_16 (by decide) (by decide) (by decide) (by decide) (by decide) dX0_init_31 (fun S_17 H eS_17 hM => ?_)
  have h := h S_17 eS_17
  obtain ⟨ok_18, h⟩ := h
  obtain ⟨nz_20, h⟩ := h
  refine mm_prF hC hM (hin rfl) (ci := 0) (j := 7) (ty := (.array .int)) ok_18 nz_20 rfl (by decide) (by decide) tw_50 rfl rfl rfl (by decide +kernel) (fun _ => rfl) (fun _ => rfl) dX0_init_33 (fun S_19 H locs eS_19 hM => ?_)
  have h := h S_19 eS_19
  refine lv_aload_n hC.1 hC.2.1 dX0_init_36 rfl (lv_at hl 0 rfl) ?_
  refine lv_bipush (v := 12) hC.1 hC.2.1 dX0_init_37 (by decide) ?_
  obtain ⟨ok_21, h⟩ := h
  refine mm_newI hC hM (N := 12) ok_21 (by decide) (by decide) (by decide) (by decide) (by decide) dX0_init_39 (fun S_22 H eS_22 hM => ?_)
  have h := h S_22 eS_22
  obtain ⟨ok_23, h⟩ := h
  obtain ⟨nz_25, h⟩ := h
  refine mm_prF hC hM (hin rfl) (ci := 0) (j := 8) (ty := (.array .int)) ok_23 nz_25 rfl (by decide) (by decide) tw_52 rfl rfl rfl (by decide +kernel) (fun _ => rfl) (fun _ => rfl) dX0_init_41 (fun S_24 H locs eS_24 hM => ?_)
  have h := h S_24 eS_24
  refine lv_aload_n hC.1 hC.2.1 dX0_init_44 rfl (lv_at hl 0 rfl) ?_
  refine lv_bipush (v := 8) hC.1 hC.2.1 dX0_init_45 (by decide) ?_
  refine lv_bipush (v := 12) hC.1 hC.2.1 dX0_init_47 (by decide) ?_
  obtain ⟨ok_26, h⟩ := h
  refine mm_mna hC hM (N := 8) (K := 12) ok_26 tw_29 (by decide) (by decide) (by decide) (by decide) (by decide) (by decide) (by decide) (by decide) dX0_init_49 (fun S_27 H eS_27 hM => ?_)
  have h := h S_27 eS_27
  obtain ⟨ok_28, h⟩ := h
  obtain ⟨nz_30, h⟩ := h
  refine mm_prF hC hM (hin rfl) (ci := 0) (j := 9) (ty := (.array (.array .int))) ok_28 nz_30 rfl (by decide) (by decide) tw_55 rfl rfl rfl (by decide +kernel) (fun _ => rfl) (fun _ => rfl) dX0_init_53 (fun S_29 H locs eS_29 hM => ?_)
  have h := h S_29 eS_29
  exact mm_vret hC hr hlk hM h dX0_init_56
set_option maxHeartbeats 4000000 in
set_option maxRecDepth 100000 in
theorem mX5_init (l : Launch) (G : Gt) (b0 : Nat) (S : St) (o : Nat) (K : St → Prop) : CV l G b0 S yX5_init cX5_init 1 none rmX5_init [.ref (b0 + o)] (wX5_init S o K) K := by
  refine met_of (by decide) (Nat.le_of_ble_eq_true rfl) rfl ?_
  intro p e s m below meth c hC hr hlk hin h H locs ls hM hl
  unfold wX5_init at h
  refine lv_aload_n hC.1 hC.2.1 dX5_init_0 rfl (lv_at hl 0 rfl) ?_
  refine mm_obj hC hl.1 tw_167 tw_21 tw_22 dX5_init_1 (by decide) (Nat.le_of_ble_eq_true rfl) ?_
  refine lv_aload_n hC.1 hC.2.1 dX5_init_4 rfl (lv_at hl 0 rfl) ?_
  refine lv_bipush (v := 64) hC.1 hC.2.1 dX5_init_5 (by decide) ?_
  obtain ⟨ok_1, h⟩ := h
  refine mm_newI hC hM (N := 64) ok_1 (by decide) (by decide) (by decide) (by decide) (by decide) dX5_init_7 (fun S_2 H eS_2 hM => ?_)
  have h := h S_2 eS_2
  obtain ⟨ok_3, h⟩ := h
  obtain ⟨nz_5, h⟩ := h
  refine mm_prF hC hM (hin rfl) (ci := 5) (j := 0) (ty := (.array .int)) ok_3 nz_5 rfl (by decide) (by decide) tw_168 rfl rfl rfl (by decide +kernel) (fun _ => rfl) (fun _ => rfl) dX5_init_9 (fun S_4 H locs eS_4 hM => ?_)
  have h := h S_4 eS_4
  refine lv_aload_n hC.1 hC.2.1 dX5_init_12 rfl (lv_at hl 0 rfl) ?_
  refine lv_bipush (v := 64) hC.1 hC.2.1 dX5_init_13 (by decide) ?_
  obtain ⟨ok_6, h⟩ := h
  refine mm_newI hC hM (N := 64) ok_6 (by decide) (by decide) (by decide) (by decide) (by decide) dX5_init_15 (fun S_7 H eS_7 hM => ?_)
  have h := h S_7 eS_7
  obtain ⟨ok_8, h⟩ := h
  obtain ⟨nz_10, h⟩ := h
  refine mm_prF hC hM (hin rfl) (ci := 5) (j := 1) (ty := (.array .int)) ok_8 nz_10 rfl (by decide) (by decide) tw_169 rfl rfl rfl (by decide +kernel) (fun _ => rfl) (fun _ => rfl) dX5_init_17 (fun S_9 H locs eS_9 hM => ?_)
  have h := h S_9 eS_9
  exact mm_vret hC hr hlk hM h dX5_init_20
set_option maxHeartbeats 4000000 in
set_option maxRecDepth 100000 in
theorem mX1_init (l : Launch) (G : Gt) (b0 : Nat) (S : St) (o : Nat) (x1 : Nat) (x2 : Nat) (K : St → Prop) : CV l G b0 S yX1_init cX1_init 3 none rmX1_init [.ref (b0 + o), .ref (b0 + x1), .ref (b0 + x2)] (wX1_init S o x1 x2 K) K := by
  refine met_of (by decide) (Nat.le_of_ble_eq_true rfl) rfl ?_
  intro p e s m below meth c hC hr hlk hin h H locs ls hM hl
  unfold wX1_init at h
  refine lv_aload_n hC.1 hC.2.1 dX1_init_0 rfl (lv_at hl 0 rfl) ?_
  refine mm_obj hC hl.1 tw_161 tw_21 tw_22 dX1_init_1 (by decide) (Nat.le_of_ble_eq_true rfl) ?_
  refine lv_aload_n hC.1 hC.2.1 dX1_init_4 rfl (lv_at hl 0 rfl) ?_
  refine lv_bipush (v := 12) hC.1 hC.2.1 dX1_init_5 (by decide) ?_
  obtain ⟨ok_1, h⟩ := h
  refine mm_newI hC hM (N := 12) ok_1 (by decide) (by decide) (by decide) (by decide) (by decide) dX1_init_7 (fun S_2 H eS_2 hM => ?_)
  have h := h S_2 eS_2
  obtain ⟨ok_3, h⟩ := h
  obtain ⟨nz_5, h⟩ := h
  refine mm_prF hC hM (hin rfl) (ci := 1) (j := 2) (ty := (.array .int)) ok_3 nz_5 rfl (by decide) (by decide) tw_178 rfl rfl rfl (by decide +kernel) (fun _ => rfl) (fun _ => rfl) dX1_init_9 (fun S_4 H locs eS_4 hM => ?_)
  have h := h S_4 eS_4
  refine lv_aload_n hC.1 hC.2.1 dX1_init_12 rfl (lv_at hl 0 rfl) ?_
  obtain ⟨ok_6, h⟩ := h
  refine mm_new hC hM (ci := 5) (ty := tyX5) ok_6 rfl tyX5_ok dvX5 tw_162 tw_163 tw_7 (by decide) (by decide) dX1_init_13 (fun S_7 H eS_7 hM => ?_)
  have h := h S_7 eS_7
  refine lv_dup hC.1 hC.2.1 dX1_init_16 rfl ?_
  refine mm_rv hM (mm_IN (As := []) (rest := [.ref (b0 + (S_4.1 + 1)), .ref (b0 + o)]) hC hM hl.1 (mX5_init l G b0 S_7 (S_4.1 + 1) _) h kX5_init nn_3 rfl (by decide) rfl (Nat.le_of_ble_eq_true rfl) dX1_init_17 (by decide)) (fun S_8 H locs h hM => ?_)
  obtain ⟨ok_10, h⟩ := h
  obtain ⟨nz_12, h⟩ := h
  refine mm_prF hC hM (hin rfl) (ci := 1) (j := 3) (ty := (.object "LeastRue$Sums")) ok_10 nz_12 rfl (by decide) (by decide) tw_179 rfl rfl rfl (by decide +kernel) (fun _ => rfl) (fun _ => rfl) dX1_init_20 (fun S_11 H locs eS_11 hM => ?_)
  have h := h S_11 eS_11
  refine lv_aload_n hC.1 hC.2.1 dX1_init_23 rfl (lv_at hl 0 rfl) ?_
  obtain ⟨ok_13, h⟩ := h
  refine mm_new hC hM (ci := 5) (ty := tyX5) ok_13 rfl tyX5_ok dvX5 tw_162 tw_163 tw_7 (by decide) (by decide) dX1_init_24 (fun S_14 H eS_14 hM => ?_)
  have h := h S_14 eS_14
  refine lv_dup hC.1 hC.2.1 dX1_init_27 rfl ?_
  refine mm_rv hM (mm_IN (As := []) (rest := [.ref (b0 + (S_11.1 + 1)), .ref (b0 + o)]) hC hM hl.1 (mX5_init l G b0 S_14 (S_11.1 + 1) _) h kX5_init nn_3 rfl (by decide) rfl (Nat.le_of_ble_eq_true rfl) dX1_init_28 (by decide)) (fun S_15 H locs h hM => ?_)
  obtain ⟨ok_17, h⟩ := h
  obtain ⟨nz_19, h⟩ := h
  refine mm_prF hC hM (hin rfl) (ci := 1) (j := 4) (ty := (.object "LeastRue$Sums")) ok_17 nz_19 rfl (by decide) (by decide) tw_180 rfl rfl rfl (by decide +kernel) (fun _ => rfl) (fun _ => rfl) dX1_init_31 (fun S_18 H locs eS_18 hM => ?_)
  have h := h S_18 eS_18
  refine lv_aload_n hC.1 hC.2.1 dX1_init_34 rfl (lv_at hl 0 rfl) ?_
  refine lv_sipush (v := 500) hC.1 hC.2.1 dX1_init_35 (by decide) ?_
  obtain ⟨ok_20, h⟩ := h
  refine mm_newI hC hM (N := 500) ok_20 (by decide) (by decide) (by decide) (by decide) (by decide) dX1_init_38 (fun S_21 H eS_21 hM => ?_)
  have h := h S_21 eS_21
  obtain ⟨ok_22, h⟩ := h
  obtain ⟨nz_24, h⟩ := h
  refine mm_prF hC hM (hin rfl) (ci := 1) (j := 5) (ty := (.array .int)) ok_22 nz_24 rfl (by decide) (by decide) tw_181 rfl rfl rfl (by decide +kernel) (fun _ => rfl) (fun _ => rfl) dX1_init_40 (fun S_23 H locs eS_23 hM => ?_)
  have h := h S_23 eS_23
  refine lv_aload_n hC.1 hC.2.1 dX1_init_43 rfl (lv_at hl 0 rfl) ?_
  refine lv_sipush (v := 500) hC.1 hC.2.1 dX1_init_44 (by decide) ?_
  obtain ⟨ok_25, h⟩ := h
  refine mm_newI hC hM (N := 500) ok_25 (by decide) (by decide) (by decide) (by decide) (by decide) dX1_init_47 (fun S_26 H eS_26 hM => ?_)
  have h := h S_26 eS_26
  obtain ⟨ok_27, h⟩ := h
  obtain ⟨nz_29, h⟩ := h
  refine mm_prF hC hM (hin rfl) (ci := 1) (j := 6) (ty := (.array .int)) ok_27 nz_29 rfl (by decide) (by decide) tw_182 rfl rfl rfl (by decide +kernel) (fun _ => rfl) (fun _ => rfl) dX1_init_49 (fun S_28 H locs eS_28 hM => ?_)
  have h := h S_28 eS_28
  refine lv_aload_n hC.1 hC.2.1 dX1_init_52 rfl (lv_at hl 0 rfl) ?_
  refine lv_sipush (v := 500) hC.1 hC.2.1 dX1_init_53 (by decide) ?_
  obtain ⟨ok_30, h⟩ := h
  refine mm_newI hC hM (N := 500) ok_30 (by decide) (by decide) (by decide) (by decide) (by decide) dX1_init_56 (fun S_31 H eS_31 hM => ?_)
  have h := h S_31 eS_31
  obtain ⟨ok_32, h⟩ := h
  obtain ⟨nz_34, h⟩ := h
  refine mm_prF hC hM (hin rfl) (ci := 1) (j := 7) (ty := (.array .int)) ok_32 nz_34 rfl (by decide) (by decide) tw_183 rfl rfl rfl (by decide +kernel) (fun _ => rfl) (fun _ => rfl) dX1_init_58 (fun S_33 H locs eS_33 hM => ?_)
  have h := h S_33 eS_33
  refine lv_aload_n hC.1 hC.2.1 dX1_init_61 rfl (lv_at hl 0 rfl) ?_
  refine lv_aload_n hC.1 hC.2.1 dX1_init_62 rfl (lv_at hl 1 rfl) ?_
  obtain ⟨ok_35, h⟩ := h
  obtain ⟨nz_37, h⟩ := h
  refine mm_prF hC hM (hin rfl) (ci := 1) (j := 0) (ty := (.object "LeastRue$Bench")) ok_35 nz_37 rfl (by decide) (by decide) tw_176 rfl rfl rfl (by decide +kernel) (fun _ => rfl) (fun _ => rfl) dX1_init_63 (fun S_36 H locs eS_36 hM => ?_)
  have h := h S_36 eS_36
  refine lv_aload_n hC.1 hC.2.1 dX1_init_66 rfl (lv_at hl 0 rfl) ?_
  refine lv_aload_n hC.1 hC.2.1 dX1_init_67 rfl (lv_at hl 2 rfl) ?_
  obtain ⟨ok_38, h⟩ := h
  obtain ⟨nz_40, h⟩ := h
  refine mm_prF hC hM (hin rfl) (ci := 1) (j := 1) (ty := (.object "LeastRue$Choices")) ok_38 nz_40 rfl (by decide) (by decide) tw_177 rfl rfl rfl (by decide +kernel) (fun _ => rfl) (fun _ => rfl) dX1_init_68 (fun S_39 H locs eS_39 hM => ?_)
  have h := h S_39 eS_39
  exact mm_vret hC hr hlk hM h dX1_init_71
set_option maxHeartbeats 4000000 in
set_option maxRecDepth 100000 in
theorem mX2_init (l : Launch) (G : Gt) (b0 : Nat) (S : St) (o : Nat) (x1 : Nat) (x2 : Nat) (K : St → Prop) : CV l G b0 S yX2_init cX2_init 3 none rmX2_init [.ref (b0 + o), .ref (b0 + x1), .ref (b0 + x2)] (wX2_init S o x1 x2 K) K := by
  refine met_of (by decide) (Nat.le_of_ble_eq_true rfl) rfl ?_
  intro p e s m below meth c hC hr hlk hin h H locs ls hM hl
  unfold wX2_init at h
  refine lv_aload_n hC.1 hC.2.1 dX2_init_0 rfl (lv_at hl 0 rfl) ?_
  refine mm_obj hC hl.1 tw_224 tw_21 tw_22 dX2_init_1 (by decide) (Nat.le_of_ble_eq_true rfl) ?_
  refine lv_aload_n hC.1 hC.2.1 dX2_init_4 rfl (lv_at hl 0 rfl) ?_
  obtain ⟨ok_1, h⟩ := h
  refine mm_new hC hM (ci := 5) (ty := tyX5) ok_1 rfl tyX5_ok dvX5 tw_225 tw_163 tw_7 (by decide) (by decide) dX2_init_5 (fun S_2 H eS_2 hM => ?_)
  have h := h S_2 eS_2
  refine lv_dup hC.1 hC.2.1 dX2_init_8 rfl ?_
  refine mm_rv hM (mm_IN (As := []) (rest := [.ref (b0 + (S.1 + 1)), .ref (b0 + o)]) hC hM hl.1 (mX5_init l G b0 S_2 (S.1 + 1) _) h kX5_init nn_4 rfl (by decide) rfl (Nat.le_of_ble_eq_true rfl) dX2_init_9 (by decide)) (fun S_3 H locs h hM => ?_)
  obtain ⟨ok_5, h⟩ := h
  obtain ⟨nz_7, h⟩ := h
  refine mm_prF hC hM (hin rfl) (ci := 2) (j := 2) (ty := (.object "LeastRue$Sums")) ok_5 nz_7 rfl (by decide) (by decide) tw_229 rfl rfl rfl (by decide +kernel) (fun _ => rfl) (fun _ => rfl) dX2_init_12 (fun S_6 H locs eS_6 hM => ?_)
  have h := h S_6 eS_6
  refine lv_aload_n hC.1 hC.2.1 dX2_init_15 rfl (lv_at hl 0 rfl) ?_
  refine lv_sipush (v := 500) hC.1 hC.2.1 dX2_init_16 (by decide) ?_
  obtain ⟨ok_8, h⟩ := h
  refine mm_newI hC hM (N := 500) ok_8 (by decide) (by decide) (by decide) (by decide) (by decide) dX2_init_19 (fun S_9 H eS_9 hM => ?_)
  have h := h S_9 eS_9
  obtain ⟨ok_10, h⟩ := h
  obtain ⟨nz_12, h⟩ := h
  refine mm_prF hC hM (hin rfl) (ci := 2) (j := 3) (ty := (.array .int)) ok_10 nz_12 rfl (by decide) (by decide) tw_230 rfl rfl rfl (by decide +kernel) (fun _ => rfl) (fun _ => rfl) dX2_init_21 (fun S_11 H locs eS_11 hM => ?_)
  have h := h S_11 eS_11
  refine lv_aload_n hC.1 hC.2.1 dX2_init_24 rfl (lv_at hl 0 rfl) ?_
  refine lv_sipush (v := 500) hC.1 hC.2.1 dX2_init_25 (by decide) ?_
  obtain ⟨ok_13, h⟩ := h
  refine mm_newI hC hM (N := 500) ok_13 (by decide) (by decide) (by decide) (by decide) (by decide) dX2_init_28 (fun S_14 H eS_14 hM => ?_)
  have h := h S_14 eS_14
  obtain ⟨ok_15, h⟩ := h
  obtain ⟨nz_17, h⟩ := h
  refine mm_prF hC hM (hin rfl) (ci := 2) (j := 4) (ty := (.array .int)) ok_15 nz_17 rfl (by decide) (by decide) tw_231 rfl rfl rfl (by decide +kernel) (fun _ => rfl) (fun _ => rfl) dX2_init_30 (fun S_16 H locs eS_16 hM => ?_)
  have h := h S_16 eS_16
  refine lv_aload_n hC.1 hC.2.1 dX2_init_33 rfl (lv_at hl 0 rfl) ?_
  refine lv_aload_n hC.1 hC.2.1 dX2_init_34 rfl (lv_at hl 1 rfl) ?_
  obtain ⟨ok_18, h⟩ := h
  obtain ⟨nz_20, h⟩ := h
  refine mm_prF hC hM (hin rfl) (ci := 2) (j := 0) (ty := (.object "LeastRue$Bench")) ok_18 nz_20 rfl (by decide) (by decide) tw_227 rfl rfl rfl (by decide +kernel) (fun _ => rfl) (fun _ => rfl) dX2_init_35 (fun S_19 H locs eS_19 hM => ?_)
  have h := h S_19 eS_19
  refine lv_aload_n hC.1 hC.2.1 dX2_init_38 rfl (lv_at hl 0 rfl) ?_
  refine lv_aload_n hC.1 hC.2.1 dX2_init_39 rfl (lv_at hl 2 rfl) ?_
  obtain ⟨ok_21, h⟩ := h
  obtain ⟨nz_23, h⟩ := h
  refine mm_prF hC hM (hin rfl) (ci := 2) (j := 1) (ty := (.object "LeastRue$Choices")) ok_21 nz_23 rfl (by decide) (by decide) tw_228 rfl rfl rfl (by decide +kernel) (fun _ => rfl) (fun _ => rfl) dX2_init_40 (fun S_22 H locs eS_22 hM => ?_)
  have h := h S_22 eS_22
  exact mm_vret hC hr hlk hM h dX2_init_43
set_option maxHeartbeats 4000000 in
set_option maxRecDepth 100000 in
theorem mX3_init (l : Launch) (G : Gt) (b0 : Nat) (S : St) (o : Nat) (K : St → Prop) : CV l G b0 S yX3_init cX3_init 1 none rmX3_init [.ref (b0 + o)] (wX3_init S o K) K := by
  refine met_of (by decide) (Nat.le_of_ble_eq_true rfl) rfl ?_
  intro p e s m below meth c hC hr hlk hin h H locs ls hM hl
  unfold wX3_init at h
  refine lv_aload_n hC.1 hC.2.1 dX3_init_0 rfl (lv_at hl 0 rfl) ?_
  refine mm_obj hC hl.1 tw_87 tw_21 tw_22 dX3_init_1 (by decide) (Nat.le_of_ble_eq_true rfl) ?_
  refine lv_aload_n hC.1 hC.2.1 dX3_init_4 rfl (lv_at hl 0 rfl) ?_
  refine lv_sipush (v := 500) hC.1 hC.2.1 dX3_init_5 (by decide) ?_
  obtain ⟨ok_1, h⟩ := h
  refine mm_newI hC hM (N := 500) ok_1 (by decide) (by decide) (by decide) (by decide) (by decide) dX3_init_8 (fun S_2 H eS_2 hM => ?_)
  have h := h S_2 eS_2
  obtain ⟨ok_3, h⟩ := h
  obtain ⟨nz_5, h⟩ := h
  refine mm_pr hC hM (ci := 3) (j := 1) (ty := (.array .int)) ok_3 nz_5 rfl (by decide) (by decide) tw_94 rfl rfl (by decide +kernel) (fun _ => rfl) (fun _ => rfl) dX3_init_10 (fun S_4 H locs eS_4 hM => ?_)
  have h := h S_4 eS_4
  refine lv_aload_n hC.1 hC.2.1 dX3_init_13 rfl (lv_at hl 0 rfl) ?_
  refine lv_sipush (v := 500) hC.1 hC.2.1 dX3_init_14 (by decide) ?_
  obtain ⟨ok_6, h⟩ := h
  refine mm_newI hC hM (N := 500) ok_6 (by decide) (by decide) (by decide) (by decide) (by decide) dX3_init_17 (fun S_7 H eS_7 hM => ?_)
  have h := h S_7 eS_7
  obtain ⟨ok_8, h⟩ := h
  obtain ⟨nz_10, h⟩ := h
  refine mm_pr hC hM (ci := 3) (j := 2) (ty := (.array .int)) ok_8 nz_10 rfl (by decide) (by decide) tw_100 rfl rfl (by decide +kernel) (fun _ => rfl) (fun _ => rfl) dX3_init_19 (fun S_9 H locs eS_9 hM => ?_)
  have h := h S_9 eS_9
  exact mm_vret hC hr hlk hM h dX3_init_22
set_option maxHeartbeats 4000000 in
set_option maxRecDepth 100000 in
theorem mX4_init (l : Launch) (G : Gt) (b0 : Nat) (S : St) (o : Nat) (K : St → Prop) : CV l G b0 S yX4_init cX4_init 1 none rmX4_init [.ref (b0 + o)] (wX4_init S o K) K := by
  refine met_of (by decide) (Nat.le_of_ble_eq_true rfl) rfl ?_
  intro p e s m below meth c hC hr hlk hin h H locs ls hM hl
  unfold wX4_init at h
  refine lv_aload_n hC.1 hC.2.1 dX4_init_0 rfl (lv_at hl 0 rfl) ?_
  refine mm_obj hC hl.1 tw_144 tw_21 tw_22 dX4_init_1 (by decide) (Nat.le_of_ble_eq_true rfl) ?_
  refine lv_aload_n hC.1 hC.2.1 dX4_init_4 rfl (lv_at hl 0 rfl) ?_
  refine lv_bipush (v := 100) hC.1 hC.2.1 dX4_init_5 (by decide) ?_
  obtain ⟨ok_1, h⟩ := h
  refine mm_newI hC hM (N := 100) ok_1 (by decide) (by decide) (by decide) (by decide) (by decide) dX4_init_7 (fun S_2 H eS_2 hM => ?_)
  have h := h S_2 eS_2
  obtain ⟨ok_3, h⟩ := h
  obtain ⟨nz_5, h⟩ := h
  refine mm_prF hC hM (hin rfl) (ci := 4) (j := 0) (ty := (.array .int)) ok_3 nz_5 rfl (by decide) (by decide) tw_145 rfl rfl rfl (by decide +kernel) (fun _ => rfl) (fun _ => rfl) dX4_init_9 (fun S_4 H locs eS_4 hM => ?_)
  have h := h S_4 eS_4
  refine lv_aload_n hC.1 hC.2.1 dX4_init_12 rfl (lv_at hl 0 rfl) ?_
  refine lv_iconst (v := (-1)) hC.1 hC.2.1 dX4_init_13 (by decide) ?_
  obtain ⟨ok_6, h⟩ := h
  refine mm_pi hC hM (ci := 4) (j := 2) (ty := .int) ok_6 rfl (by decide) (by decide) tw_147 rfl rfl (by decide +kernel) rfl rfl dX4_init_14 (fun S_7 H locs eS_7 hM => ?_)
  have h := h S_7 eS_7
  exact mm_vret hC hr hlk hM h dX4_init_17
set_option maxHeartbeats 4000000 in
set_option maxRecDepth 100000 in
theorem mX6_init (l : Launch) (G : Gt) (b0 : Nat) (S : St) (o : Nat) (x1 : Nat) (x2 : Nat) (K : St → Prop) : CV l G b0 S yX6_init cX6_init 3 none rmX6_init [.ref (b0 + o), .ref (b0 + x1), .ref (b0 + x2)] (wX6_init S o x1 x2 K) K := by
  refine met_of (by decide) (Nat.le_of_ble_eq_true rfl) rfl ?_
  intro p e s m below meth c hC hr hlk hin h H locs ls hM hl
  unfold wX6_init at h
  refine lv_aload_n hC.1 hC.2.1 dX6_init_0 rfl (lv_at hl 0 rfl) ?_
  refine mm_obj hC hl.1 tw_280 tw_21 tw_22 dX6_init_1 (by decide) (Nat.le_of_ble_eq_true rfl) ?_
  refine lv_aload_n hC.1 hC.2.1 dX6_init_4 rfl (lv_at hl 0 rfl) ?_
  obtain ⟨ok_1, h⟩ := h
  refine mm_new hC hM (ci := 5) (ty := tyX5) ok_1 rfl tyX5_ok dvX5 tw_281 tw_163 tw_7 (by decide) (by decide) dX6_init_5 (fun S_2 H eS_2 hM => ?_)
  have h := h S_2 eS_2
  refine lv_dup hC.1 hC.2.1 dX6_init_8 rfl ?_
  refine mm_rv hM (mm_IN (As := []) (rest := [.ref (b0 + (S.1 + 1)), .ref (b0 + o)]) hC hM hl.1 (mX5_init l G b0 S_2 (S.1 + 1) _) h kX5_init nn_6 rfl (by decide) rfl (Nat.le_of_ble_eq_true rfl) dX6_init_9 (by decide)) (fun S_3 H locs h hM => ?_)
  obtain ⟨ok_5, h⟩ := h
  obtain ⟨nz_7, h⟩ := h
  refine mm_prF hC hM (hin rfl) (ci := 6) (j := 2) (ty := (.object "LeastRue$Sums")) ok_5 nz_7 rfl (by decide) (by decide) tw_285 rfl rfl rfl (by decide +kernel) (fun _ => rfl) (fun _ => rfl) dX6_init_12 (fun S_6 H locs eS_6 hM => ?_)
  have h := h S_6 eS_6
  refine lv_aload_n hC.1 hC.2.1 dX6_init_15 rfl (lv_at hl 0 rfl) ?_
  obtain ⟨ok_8, h⟩ := h
  refine mm_new hC hM (ci := 5) (ty := tyX5) ok_8 rfl tyX5_ok dvX5 tw_281 tw_163 tw_7 (by decide) (by decide) dX6_init_16 (fun S_9 H eS_9 hM => ?_)
  have h := h S_9 eS_9
  refine lv_dup hC.1 hC.2.1 dX6_init_19 rfl ?_
  refine mm_rv hM (mm_IN (As := []) (rest := [.ref (b0 + (S_6.1 + 1)), .ref (b0 + o)]) hC hM hl.1 (mX5_init l G b0 S_9 (S_6.1 + 1) _) h kX5_init nn_6 rfl (by decide) rfl (Nat.le_of_ble_eq_true rfl) dX6_init_20 (by decide)) (fun S_10 H locs h hM => ?_)
  obtain ⟨ok_12, h⟩ := h
  obtain ⟨nz_14, h⟩ := h
  refine mm_prF hC hM (hin rfl) (ci := 6) (j := 3) (ty := (.object "LeastRue$Sums")) ok_12 nz_14 rfl (by decide) (by decide) tw_286 rfl rfl rfl (by decide +kernel) (fun _ => rfl) (fun _ => rfl) dX6_init_23 (fun S_13 H locs eS_13 hM => ?_)
  have h := h S_13 eS_13
  refine lv_aload_n hC.1 hC.2.1 dX6_init_26 rfl (lv_at hl 0 rfl) ?_
  refine lv_sipush (v := 4096) hC.1 hC.2.1 dX6_init_27 (by decide) ?_
  obtain ⟨ok_15, h⟩ := h
  refine mm_newI hC hM (N := 4096) ok_15 (by decide) (by decide) (by decide) (by decide) (by decide) dX6_init_30 (fun S_16 H eS_16 hM => ?_)
  have h := h S_16 eS_16
  obtain ⟨ok_17, h⟩ := h
  obtain ⟨nz_19, h⟩ := h
  refine mm_prF hC hM (hin rfl) (ci := 6) (j := 4) (ty := (.array .int)) ok_17 nz_19 rfl (by decide) (by decide) tw_287 rfl rfl rfl (by decide +kernel) (fun _ => rfl) (fun _ => rfl) dX6_init_32 (fun S_18 H locs eS_18 hM => ?_)
  have h := h S_18 eS_18
  refine lv_aload_n hC.1 hC.2.1 dX6_init_35 rfl (lv_at hl 0 rfl) ?_
  refine lv_sipush (v := 4096) hC.1 hC.2.1 dX6_init_36 (by decide) ?_
  obtain ⟨ok_20, h⟩ := h
  refine mm_newI hC hM (N := 4096) ok_20 (by decide) (by decide) (by decide) (by decide) (by decide) dX6_init_39 (fun S_21 H eS_21 hM => ?_)
  have h := h S_21 eS_21
  obtain ⟨ok_22, h⟩ := h
  obtain ⟨nz_24, h⟩ := h
  refine mm_prF hC hM (hin rfl) (ci := 6) (j := 5) (ty := (.array .int)) ok_22 nz_24 rfl (by decide) (by decide) tw_288 rfl rfl rfl (by decide +kernel) (fun _ => rfl) (fun _ => rfl) dX6_init_41 (fun S_23 H locs eS_23 hM => ?_)
  have h := h S_23 eS_23
  refine lv_aload_n hC.1 hC.2.1 dX6_init_44 rfl (lv_at hl 0 rfl) ?_
  refine lv_aload_n hC.1 hC.2.1 dX6_init_45 rfl (lv_at hl 1 rfl) ?_
  obtain ⟨ok_25, h⟩ := h
  obtain ⟨nz_27, h⟩ := h
  refine mm_prF hC hM (hin rfl) (ci := 6) (j := 0) (ty := (.object "LeastRue$Bench")) ok_25 nz_27 rfl (by decide) (by decide) tw_283 rfl rfl rfl (by decide +kernel) (fun _ => rfl) (fun _ => rfl) dX6_init_46 (fun S_26 H locs eS_26 hM => ?_)
  have h := h S_26 eS_26
  refine lv_aload_n hC.1 hC.2.1 dX6_init_49 rfl (lv_at hl 0 rfl) ?_
  refine lv_aload_n hC.1 hC.2.1 dX6_init_50 rfl (lv_at hl 2 rfl) ?_
  obtain ⟨ok_28, h⟩ := h
  obtain ⟨nz_30, h⟩ := h
  refine mm_prF hC hM (hin rfl) (ci := 6) (j := 1) (ty := (.object "LeastRue$Choices")) ok_28 nz_30 rfl (by decide) (by decide) tw_284 rfl rfl rfl (by decide +kernel) (fun _ => rfl) (fun _ => rfl) dX6_init_51 (fun S_29 H locs eS_29 hM => ?_)
  have h := h S_29 eS_29
  exact mm_vret hC hr hlk hM h dX6_init_54
set_option maxHeartbeats 4000000 in
set_option maxRecDepth 100000 in
theorem mX7_init (l : Launch) (G : Gt) (b0 : Nat) (S : St) (o : Nat) (x1 : Nat) (x2 : Nat) (K : St → Prop) : CV l G b0 S yX7_init cX7_init 3 none rmX7_init [.ref (b0 + o), .ref (b0 + x1), .ref (b0 + x2)] (wX7_init S o x1 x2 K) K := by
  refine met_of (by decide) (Nat.le_of_ble_eq_true rfl) rfl ?_
  intro p e s m below meth c hC hr hlk hin h H locs ls hM hl
  unfold wX7_init at h
  refine lv_aload_n hC.1 hC.2.1 dX7_init_0 rfl (lv_at hl 0 rfl) ?_
  refine mm_obj hC hl.1 tw_248 tw_21 tw_22 dX7_init_1 (by decide) (Nat.le_of_ble_eq_true rfl) ?_
  refine lv_aload_n hC.1 hC.2.1 dX7_init_4 rfl (lv_at hl 0 rfl) ?_
  obtain ⟨ok_1, h⟩ := h
  refine mm_new hC hM (ci := 5) (ty := tyX5) ok_1 rfl tyX5_ok dvX5 tw_249 tw_163 tw_7 (by decide) (by decide) dX7_init_5 (fun S_2 H eS_2 hM => ?_)
  have h := h S_2 eS_2
  refine lv_dup hC.1 hC.2.1 dX7_init_8 rfl ?_
  refine mm_rv hM (mm_IN (As := []) (rest := [.ref (b0 + (S.1 + 1)), .ref (b0 + o)]) hC hM hl.1 (mX5_init l G b0 S_2 (S.1 + 1) _) h kX5_init nn_5 rfl (by decide) rfl (Nat.le_of_ble_eq_true rfl) dX7_init_9 (by decide)) (fun S_3 H locs h hM => ?_)
  obtain ⟨ok_5, h⟩ := h
  obtain ⟨nz_7, h⟩ := h
  refine mm_prF hC hM (hin rfl) (ci := 7) (j := 2) (ty := (.object "LeastRue$Sums")) ok_5 nz_7 rfl (by decide) (by decide) tw_253 rfl rfl rfl (by decide +kernel) (fun _ => rfl) (fun _ => rfl) dX7_init_12 (fun S_6 H locs eS_6 hM => ?_)
  have h := h S_6 eS_6
  refine lv_aload_n hC.1 hC.2.1 dX7_init_15 rfl (lv_at hl 0 rfl) ?_
  refine lv_sipush (v := 500) hC.1 hC.2.1 dX7_init_16 (by decide) ?_
  obtain ⟨ok_8, h⟩ := h
  refine mm_newI hC hM (N := 500) ok_8 (by decide) (by decide) (by decide) (by decide) (by decide) dX7_init_19 (fun S_9 H eS_9 hM => ?_)
  have h := h S_9 eS_9
  obtain ⟨ok_10, h⟩ := h
  obtain ⟨nz_12, h⟩ := h
  refine mm_prF hC hM (hin rfl) (ci := 7) (j := 3) (ty := (.array .int)) ok_10 nz_12 rfl (by decide) (by decide) tw_254 rfl rfl rfl (by decide +kernel) (fun _ => rfl) (fun _ => rfl) dX7_init_21 (fun S_11 H locs eS_11 hM => ?_)
  have h := h S_11 eS_11
  refine lv_aload_n hC.1 hC.2.1 dX7_init_24 rfl (lv_at hl 0 rfl) ?_
  refine lv_sipush (v := 500) hC.1 hC.2.1 dX7_init_25 (by decide) ?_
  obtain ⟨ok_13, h⟩ := h
  refine mm_newI hC hM (N := 500) ok_13 (by decide) (by decide) (by decide) (by decide) (by decide) dX7_init_28 (fun S_14 H eS_14 hM => ?_)
  have h := h S_14 eS_14
  obtain ⟨ok_15, h⟩ := h
  obtain ⟨nz_17, h⟩ := h
  refine mm_prF hC hM (hin rfl) (ci := 7) (j := 4) (ty := (.array .int)) ok_15 nz_17 rfl (by decide) (by decide) tw_255 rfl rfl rfl (by decide +kernel) (fun _ => rfl) (fun _ => rfl) dX7_init_30 (fun S_16 H locs eS_16 hM => ?_)
  have h := h S_16 eS_16
  refine lv_aload_n hC.1 hC.2.1 dX7_init_33 rfl (lv_at hl 0 rfl) ?_
  refine lv_aload_n hC.1 hC.2.1 dX7_init_34 rfl (lv_at hl 1 rfl) ?_
  obtain ⟨ok_18, h⟩ := h
  obtain ⟨nz_20, h⟩ := h
  refine mm_prF hC hM (hin rfl) (ci := 7) (j := 0) (ty := (.object "LeastRue$Bench")) ok_18 nz_20 rfl (by decide) (by decide) tw_251 rfl rfl rfl (by decide +kernel) (fun _ => rfl) (fun _ => rfl) dX7_init_35 (fun S_19 H locs eS_19 hM => ?_)
  have h := h S_19 eS_19
  refine lv_aload_n hC.1 hC.2.1 dX7_init_38 rfl (lv_at hl 0 rfl) ?_
  refine lv_aload_n hC.1 hC.2.1 dX7_init_39 rfl (lv_at hl 2 rfl) ?_
  obtain ⟨ok_21, h⟩ := h
  obtain ⟨nz_23, h⟩ := h
  refine mm_prF hC hM (hin rfl) (ci := 7) (j := 1) (ty := (.object "LeastRue$Choices")) ok_21 nz_23 rfl (by decide) (by decide) tw_252 rfl rfl rfl (by decide +kernel) (fun _ => rfl) (fun _ => rfl) dX7_init_40 (fun S_22 H locs eS_22 hM => ?_)
  have h := h S_22 eS_22
  exact mm_vret hC hr hlk hM h dX7_init_43
set_option maxHeartbeats 4000000 in
set_option maxRecDepth 100000 in
theorem mX8_init (l : Launch) (G : Gt) (b0 : Nat) (S : St) (o : Nat) (K : St → Prop) : CV l G b0 S yX8_init cX8_init 2 none rmX8_init [.ref (b0 + o)] (wX8_init S o K) K := by
  refine met_of (by decide) (Nat.le_of_ble_eq_true rfl) rfl ?_
  intro p e s m below meth c hC hr hlk hin h H locs ls hM hl
  unfold wX8_init at h
  refine lv_aload_n hC.1 hC.2.1 dX8_init_0 rfl (lv_at hl 0 rfl) ?_
  refine mm_obj hC hl.1 tw_20 tw_21 tw_22 dX8_init_1 (by decide) (Nat.le_of_ble_eq_true rfl) ?_
  refine lv_aload_n hC.1 hC.2.1 dX8_init_4 rfl (lv_at hl 0 rfl) ?_
  obtain ⟨ok_1, h⟩ := h
  refine mm_new hC hM (ci := 0) (ty := tyX0) ok_1 rfl tyX0_ok dvX0 tw_23 tw_24 tw_2 (by decide) (by decide) dX8_init_5 (fun S_2 H eS_2 hM => ?_)
  have h := h S_2 eS_2
  refine lv_dup hC.1 hC.2.1 dX8_init_8 rfl ?_
  refine mm_rv hM (mm_IN (As := []) (rest := [.ref (b0 + (S.1 + 1)), .ref (b0 + o)]) hC hM hl.1 (mX0_init l G b0 S_2 (S.1 + 1) _) h kX0_init nn_0 rfl (by decide) rfl (Nat.le_of_ble_eq_true rfl) dX8_init_9 (by decide)) (fun S_3 H locs h hM => ?_)
  obtain ⟨ok_5, h⟩ := h
  obtain ⟨nz_7, h⟩ := h
  refine mm_prF hC hM (hin rfl) (ci := 8) (j := 0) (ty := (.object "LeastRue$Bench")) ok_5 nz_7 rfl (by decide) (by decide) tw_302 rfl rfl rfl (by decide +kernel) (fun _ => rfl) (fun _ => rfl) dX8_init_12 (fun S_6 H locs eS_6 hM => ?_)
  have h := h S_6 eS_6
  refine lv_aload_n hC.1 hC.2.1 dX8_init_15 rfl (lv_at hl 0 rfl) ?_
  obtain ⟨ok_8, h⟩ := h
  refine mm_new hC hM (ci := 3) (ty := tyX3) ok_8 rfl tyX3_ok dvX3 tw_82 tw_83 tw_3 (by decide) (by decide) dX8_init_16 (fun S_9 H eS_9 hM => ?_)
  have h := h S_9 eS_9
  refine lv_dup hC.1 hC.2.1 dX8_init_19 rfl ?_
  refine mm_rv hM (mm_IN (As := []) (rest := [.ref (b0 + (S_6.1 + 1)), .ref (b0 + o)]) hC hM hl.1 (mX3_init l G b0 S_9 (S_6.1 + 1) _) h kX3_init nn_1 rfl (by decide) rfl (Nat.le_of_ble_eq_true rfl) dX8_init_20 (by decide)) (fun S_10 H locs h hM => ?_)
  obtain ⟨ok_12, h⟩ := h
  obtain ⟨nz_14, h⟩ := h
  refine mm_prF hC hM (hin rfl) (ci := 8) (j := 1) (ty := (.object "LeastRue$Choices")) ok_12 nz_14 rfl (by decide) (by decide) tw_303 rfl rfl rfl (by decide +kernel) (fun _ => rfl) (fun _ => rfl) dX8_init_23 (fun S_13 H locs eS_13 hM => ?_)
  have h := h S_13 eS_13
  refine lv_aload_n hC.1 hC.2.1 dX8_init_26 rfl (lv_at hl 0 rfl) ?_
  obtain ⟨ok_15, h⟩ := h
  refine mm_gr hC hM (ci := 8) (j := 1) ok_15 rfl (by decide) (by decide) tw_303 rfl dX8_init_27 ?_
  refine lv_aload_n hC.1 hC.2.1 dX8_init_30 rfl (lv_at hl 0 rfl) ?_
  obtain ⟨ok_16, h⟩ := h
  refine mm_gr hC hM (ci := 8) (j := 0) ⟨ok_15.1, ok_16⟩ rfl (by decide) (by decide) tw_302 rfl dX8_init_31 ?_
  obtain ⟨ok_19, h⟩ := h
  refine mm_ri hM (mm_V (As := [.ref (b0 + (sR S_13 o 0))]) (rest := []) hC hM hl.1 (mX3_relist l G b0 S_13 (sR S_13 o 1) (sR S_13 o 0) _) h (ci := 3) ok_19 rfl rfl kX3_relist tw_108 rfl (by decide) rfl (Nat.le_of_ble_eq_true rfl) dX8_init_34 (by decide)) (fun r_18 S_17 H locs h hM => ?_)
  refine lv_pop hC.1 hC.2.1 dX8_init_37 rfl ?_
  refine lv_aload_n hC.1 hC.2.1 dX8_init_38 rfl (lv_at hl 0 rfl) ?_
  refine lv_iconst (v := 4) hC.1 hC.2.1 dX8_init_39 (by decide) ?_
  obtain ⟨ok_20, h⟩ := h
  refine mm_anew hC hM (t := 13) (t0 := 3) (N := 4) ok_20 (by decide) rfl tw_138 hM.2.1.2.1 (by decide) (by decide) (by decide) (by decide) (by decide) dX8_init_40 (fun S_21 H eS_21 hM => ?_)
  have h := h S_21 eS_21
  obtain ⟨ok_22, h⟩ := h
  obtain ⟨nz_24, h⟩ := h
  refine mm_prF hC hM (hin rfl) (ci := 8) (j := 2) (ty := (.array (.object "LeastRue$Sheet"))) ok_22 nz_24 rfl (by decide) (by decide) tw_304 rfl rfl rfl (by decide +kernel) (fun _ => rfl) (fun _ => rfl) dX8_init_43 (fun S_23 H locs eS_23 hM => ?_)
  have h := h S_23 eS_23
  refine lv_iconst (v := 0) hC.1 hC.2.1 dX8_init_46 (by decide) ?_
  refine lv_istore_n (lv' := [(1, .int 0), (0, .ref (b0 + o))]) hC.1 hC.2.1 dX8_init_47 rfl hl (by decide) rfl (fun ls hl => ?_)
  refine lv_iload_n hC.1 hC.2.1 dX8_init_48 rfl (lv_at hl 0 rfl) ?_
  refine lv_iconst (v := 4) hC.1 hC.2.1 dX8_init_49 (by decide) ?_
  refine lv_icmp_ge (tgt := 72) hC.1 hC.2.1 dX8_init_50 (by decide) (fun z => absurd z (by decide)) (fun _ => ?_)
  refine lv_aload_n hC.1 hC.2.1 dX8_init_53 rfl (lv_at hl 1 rfl) ?_
  obtain ⟨ok_25, h⟩ := h
  refine mm_gr hC hM (ci := 8) (j := 2) ok_25 rfl (by decide) (by decide) tw_304 rfl dX8_init_54 ?_
  refine lv_iload_n hC.1 hC.2.1 dX8_init_57 rfl (lv_at hl 0 rfl) ?_
  obtain ⟨ok_26, h⟩ := h
  refine mm_new hC hM (ci := 4) (ty := tyX4) ok_26 rfl tyX4_ok dvX4 tw_138 tw_140 tw_5 (by decide) (by decide) dX8_init_58 (fun S_27 H eS_27 hM => ?_)
  have h := h S_27 eS_27
  refine lv_dup hC.1 hC.2.1 dX8_init_61 rfl ?_
  refine mm_rv hM (mm_IN (As := []) (rest := [.ref (b0 + (S_23.1 + 1)), .int 0, .ref (b0 + (sR S_23 o 2))]) hC hM hl.1 (mX4_init l G b0 S_27 (S_23.1 + 1) _) h kX4_init nn_2 rfl (by decide) rfl (Nat.le_of_ble_eq_true rfl) dX8_init_62 (by decide)) (fun S_28 H locs h hM => ?_)
  obtain ⟨ok_30, h⟩ := h
  obtain ⟨ok_32, h⟩ := h
  refine mm_as hC hM (t0 := 3) (ci := 4) ok_30 ok_32 (by decide) rfl rfl dX8_init_65 (fun S_31 H locs eS_31 hM => ?_)
  have h := h S_31 eS_31
  refine lv_iinc (v := 1) (lv' := [(1, .int 1), (0, .ref (b0 + o))]) hC.1 hC.2.1 dX8_init_66 hl (k := 0) rfl (by decide) (by decide) rfl (fun ls hl => ?_)
  refine lv_goto (tgt := 48) hC.1 hC.2.1 dX8_init_69 (by decide) ?_
  refine lv_iload_n hC.1 hC.2.1 dX8_init_48 rfl (lv_at hl 0 rfl) ?_
  refine lv_iconst (v := 4) hC.1 hC.2.1 dX8_init_49 (by decide) ?_
  refine lv_icmp_ge (tgt := 72) hC.1 hC.2.1 dX8_init_50 (by decide) (fun z => absurd z (by decide)) (fun _ => ?_)
  refine lv_aload_n hC.1 hC.2.1 dX8_init_53 rfl (lv_at hl 1 rfl) ?_
  obtain ⟨ok_34, h⟩ := h
  refine mm_gr hC hM (ci := 8) (j := 2) ok_34 rfl (by decide) (by decide) tw_304 rfl dX8_init_54 ?_
  refine lv_iload_n hC.1 hC.2.1 dX8_init_57 rfl (lv_at hl 0 rfl) ?_
  obtain ⟨ok_35, h⟩ := h
  refine mm_new hC hM (ci := 4) (ty := tyX4) ok_35 rfl tyX4_ok dvX4 tw_138 tw_140 tw_5 (by decide) (by decide) dX8_init_58 (fun S_36 H eS_36 hM => ?_)
  have h := h S_36 eS_36
  refine lv_dup hC.1 hC.2.1 dX8_init_61 rfl ?_
  refine mm_rv hM (mm_IN (As := []) (rest := [.ref (b0 + (S_31.1 + 1)), .int 1, .ref (b0 + (sR S_31 o 2))]) hC hM hl.1 (mX4_init l G b0 S_36 (S_31.1 + 1) _) h kX4_init nn_2 rfl (by decide) rfl (Nat.le_of_ble_eq_true rfl) dX8_init_62 (by decide)) (fun S_37 H locs h hM => ?_)
  obtain ⟨ok_39, h⟩ := h
  obtain ⟨ok_41, h⟩ := h
  refine mm_as hC hM (t0 := 3) (ci := 4) ok_39 ok_41 (by decide) rfl rfl dX8_init_65 (fun S_40 H locs eS_40 hM => ?_)
  have h := h S_40 eS_40
  refine lv_iinc (v := 2) (lv' := [(1, .int 2), (0, .ref (b0 + o))]) hC.1 hC.2.1 dX8_init_66 hl (k := 0) rfl (by decide) (by decide) rfl (fun ls hl => ?_)
  refine lv_goto (tgt := 48) hC.1 hC.2.1 dX8_init_69 (by decide) ?_
  refine lv_iload_n hC.1 hC.2.1 dX8_init_48 rfl (lv_at hl 0 rfl) ?_
  refine lv_iconst (v := 4) hC.1 hC.2.1 dX8_init_49 (by decide) ?_
  refine lv_icmp_ge (tgt := 72) hC.1 hC.2.1 dX8_init_50 (by decide) (fun z => absurd z (by decide)) (fun _ => ?_)
  refine lv_aload_n hC.1 hC.2.1 dX8_init_53 rfl (lv_at hl 1 rfl) ?_
  obtain ⟨ok_43, h⟩ := h
  refine mm_gr hC hM (ci := 8) (j := 2) ok_43 rfl (by decide) (by decide) tw_304 rfl dX8_init_54 ?_
  refine lv_iload_n hC.1 hC.2.1 dX8_init_57 rfl (lv_at hl 0 rfl) ?_
  obtain ⟨ok_44, h⟩ := h
  refine mm_new hC hM (ci := 4) (ty := tyX4) ok_44 rfl tyX4_ok dvX4 tw_138 tw_140 tw_5 (by decide) (by decide) dX8_init_58 (fun S_45 H eS_45 hM => ?_)
  have h := h S_45 eS_45
  refine lv_dup hC.1 hC.2.1 dX8_init_61 rfl ?_
  refine mm_rv hM (mm_IN (As := []) (rest := [.ref (b0 + (S_40.1 + 1)), .int 2, .ref (b0 + (sR S_40 o 2))]) hC hM hl.1 (mX4_init l G b0 S_45 (S_40.1 + 1) _) h kX4_init nn_2 rfl (by decide) rfl (Nat.le_of_ble_eq_true rfl) dX8_init_62 (by decide)) (fun S_46 H locs h hM => ?_)
  obtain ⟨ok_48, h⟩ := h
  obtain ⟨ok_50, h⟩ := h
  refine mm_as hC hM (t0 := 3) (ci := 4) ok_48 ok_50 (by decide) rfl rfl dX8_init_65 (fun S_49 H locs eS_49 hM => ?_)
  have h := h S_49 eS_49
  refine lv_iinc (v := 3) (lv' := [(1, .int 3), (0, .ref (b0 + o))]) hC.1 hC.2.1 dX8_init_66 hl (k := 0) rfl (by decide) (by decide) rfl (fun ls hl => ?_)
  refine lv_goto (tgt := 48) hC.1 hC.2.1 dX8_init_69 (by decide) ?_
  refine lv_iload_n hC.1 hC.2.1 dX8_init_48 rfl (lv_at hl 0 rfl) ?_
  refine lv_iconst (v := 4) hC.1 hC.2.1 dX8_init_49 (by decide) ?_
  refine lv_icmp_ge (tgt := 72) hC.1 hC.2.1 dX8_init_50 (by decide) (fun z => absurd z (by decide)) (fun _ => ?_)
  refine lv_aload_n hC.1 hC.2.1 dX8_init_53 rfl (lv_at hl 1 rfl) ?_
  obtain ⟨ok_52, h⟩ := h
  refine mm_gr hC hM (ci := 8) (j := 2) ok_52 rfl (by decide) (by decide) tw_304 rfl dX8_init_54 ?_
  refine lv_iload_n hC.1 hC.2.1 dX8_init_57 rfl (lv_at hl 0 rfl) ?_
  obtain ⟨ok_53, h⟩ := h
  refine mm_new hC hM (ci := 4) (ty := tyX4) ok_53 rfl tyX4_ok dvX4 tw_138 tw_140 tw_5 (by decide) (by decide) dX8_init_58 (fun S_54 H eS_54 hM => ?_)
  have h := h S_54 eS_54
  refine lv_dup hC.1 hC.2.1 dX8_init_61 rfl ?_
  refine mm_rv hM (mm_IN (As := []) (rest := [.ref (b0 + (S_49.1 + 1)), .int 3, .ref (b0 + (sR S_49 o 2))]) hC hM hl.1 (mX4_init l G b0 S_54 (S_49.1 + 1) _) h kX4_init nn_2 rfl (by decide) rfl (Nat.le_of_ble_eq_true rfl) dX8_init_62 (by decide)) (fun S_55 H locs h hM => ?_)
  obtain ⟨ok_57, h⟩ := h
  obtain ⟨ok_59, h⟩ := h
  refine mm_as hC hM (t0 := 3) (ci := 4) ok_57 ok_59 (by decide) rfl rfl dX8_init_65 (fun S_58 H locs eS_58 hM => ?_)
  have h := h S_58 eS_58
  refine lv_iinc (v := 4) (lv' := [(1, .int 4), (0, .ref (b0 + o))]) hC.1 hC.2.1 dX8_init_66 hl (k := 0) rfl (by decide) (by decide) rfl (fun ls hl => ?_)
  refine lv_goto (tgt := 48) hC.1 hC.2.1 dX8_init_69 (by decide) ?_
  refine lv_iload_n hC.1 hC.2.1 dX8_init_48 rfl (lv_at hl 0 rfl) ?_
  refine lv_iconst (v := 4) hC.1 hC.2.1 dX8_init_49 (by decide) ?_
  refine lv_icmp_ge (tgt := 72) hC.1 hC.2.1 dX8_init_50 (by decide) (fun _ => ?_) (fun z => absurd z (by decide))
  refine lv_aload_n hC.1 hC.2.1 dX8_init_72 rfl (lv_at hl 1 rfl) ?_
  refine lv_iconst (v := 3) hC.1 hC.2.1 dX8_init_73 (by decide) ?_
  obtain ⟨ok_61, h⟩ := h
  refine mm_anew hC hM (t := 12) (t0 := 2) (N := 3) ok_61 (by decide) rfl tw_23 hM.2.1.2.2.1 (by decide) (by decide) (by decide) (by decide) (by decide) dX8_init_74 (fun S_62 H eS_62 hM => ?_)
  have h := h S_62 eS_62
  obtain ⟨ok_63, h⟩ := h
  obtain ⟨nz_65, h⟩ := h
  refine mm_prF hC hM (hin rfl) (ci := 8) (j := 3) (ty := (.array (.object "LeastRue$Bench"))) ok_63 nz_65 rfl (by decide) (by decide) tw_305 rfl rfl rfl (by decide +kernel) (fun _ => rfl) (fun _ => rfl) dX8_init_77 (fun S_64 H locs eS_64 hM => ?_)
  have h := h S_64 eS_64
  refine lv_iconst (v := 0) hC.1 hC.2.1 dX8_init_80 (by decide) ?_
  refine lv_istore_n (lv' := [(1, .int 0), (0, .ref (b0 + o))]) hC.1 hC.2.1 dX8_init_81 rfl hl (by decide) rfl (fun ls hl => ?_)
  refine lv_iload_n hC.1 hC.2.1 dX8_init_82 rfl (lv_at hl 0 rfl) ?_
  refine lv_iconst (v := 3) hC.1 hC.2.1 dX8_init_83 (by decide) ?_
  refine lv_icmp_ge (tgt := 106) hC.1 hC.2.1 dX8_init_84 (by decide) (fun z => absurd z (by decide)) (fun _ => ?_)
  refine lv_aload_n hC.1 hC.2.1 dX8_init_87 rfl (lv_at hl 1 rfl) ?_
  obtain ⟨ok_66, h⟩ := h
  refine mm_gr hC hM (ci := 8) (j := 3) ok_66 rfl (by decide) (by decide) tw_305 rfl dX8_init_88 ?_
  refine lv_iload_n hC.1 hC.2.1 dX8_init_91 rfl (lv_at hl 0 rfl) ?_
  obtain ⟨ok_67, h⟩ := h
  refine mm_new hC hM (ci := 0) (ty := tyX0) ok_67 rfl tyX0_ok dvX0 tw_23 tw_24 tw_2 (by decide) (by decide) dX8_init_92 (fun S_68 H eS_68 hM => ?_)
  have h := h S_68 eS_68
  refine lv_dup hC.1 hC.2.1 dX8_init_95 rfl ?_
  refine mm_rv hM (mm_IN (As := []) (rest := [.ref (b0 + (S_64.1 + 1)), .int 0, .ref (b0 + (sR S_64 o 3))]) hC hM hl.1 (mX0_init l G b0 S_68 (S_64.1 + 1) _) h kX0_init nn_0 rfl (by decide) rfl (Nat.le_of_ble_eq_true rfl) dX8_init_96 (by decide)) (fun S_69 H locs h hM => ?_)
  obtain ⟨ok_71, h⟩ := h
  obtain ⟨ok_73, h⟩ := h
  refine mm_as hC hM (t0 := 2) (ci := 0) ok_71 ok_73 (by decide) rfl rfl dX8_init_99 (fun S_72 H locs eS_72 hM => ?_)
  have h := h S_72 eS_72
  refine lv_iinc (v := 1) (lv' := [(1, .int 1), (0, .ref (b0 + o))]) hC.1 hC.2.1 dX8_init_100 hl (k := 0) rfl (by decide) (by decide) rfl (fun ls hl => ?_)
  refine lv_goto (tgt := 82) hC.1 hC.2.1 dX8_init_103 (by decide) ?_
  refine lv_iload_n hC.1 hC.2.1 dX8_init_82 rfl (lv_at hl 0 rfl) ?_
  refine lv_iconst (v := 3) hC.1 hC.2.1 dX8_init_83 (by decide) ?_
  refine lv_icmp_ge (tgt := 106) hC.1 hC.2.1 dX8_init_84 (by decide) (fun z => absurd z (by decide)) (fun _ => ?_)
  refine lv_aload_n hC.1 hC.2.1 dX8_init_87 rfl (lv_at hl 1 rfl) ?_
  obtain ⟨ok_75, h⟩ := h
  refine mm_gr hC hM (ci := 8) (j := 3) ok_75 rfl (by decide) (by decide) tw_305 rfl dX8_init_88 ?_
  refine lv_iload_n hC.1 hC.2.1 dX8_init_91 rfl (lv_at hl 0 rfl) ?_
  obtain ⟨ok_76, h⟩ := h
  refine mm_new hC hM (ci := 0) (ty := tyX0) ok_76 rfl tyX0_ok dvX0 tw_23 tw_24 tw_2 (by decide) (by decide) dX8_init_92 (fun S_77 H eS_77 hM => ?_)
  have h := h S_77 eS_77
  refine lv_dup hC.1 hC.2.1 dX8_init_95 rfl ?_
  refine mm_rv hM (mm_IN (As := []) (rest := [.ref (b0 + (S_72.1 + 1)), .int 1, .ref (b0 + (sR S_72 o 3))]) hC hM hl.1 (mX0_init l G b0 S_77 (S_72.1 + 1) _) h kX0_init nn_0 rfl (by decide) rfl (Nat.le_of_ble_eq_true rfl) dX8_init_96 (by decide)) (fun S_78 H locs h hM => ?_)
  obtain ⟨ok_80, h⟩ := h
  obtain ⟨ok_82, h⟩ := h
  refine mm_as hC hM (t0 := 2) (ci := 0) ok_80 ok_82 (by decide) rfl rfl dX8_init_99 (fun S_81 H locs eS_81 hM => ?_)
  have h := h S_81 eS_81
  refine lv_iinc (v := 2) (lv' := [(1, .int 2), (0, .ref (b0 + o))]) hC.1 hC.2.1 dX8_init_100 hl (k := 0) rfl (by decide) (by decide) rfl (fun ls hl => ?_)
  refine lv_goto (tgt := 82) hC.1 hC.2.1 dX8_init_103 (by decide) ?_
  refine lv_iload_n hC.1 hC.2.1 dX8_init_82 rfl (lv_at hl 0 rfl) ?_
  refine lv_iconst (v := 3) hC.1 hC.2.1 dX8_init_83 (by decide) ?_
  refine lv_icmp_ge (tgt := 106) hC.1 hC.2.1 dX8_init_84 (by decide) (fun z => absurd z (by decide)) (fun _ => ?_)
  refine lv_aload_n hC.1 hC.2.1 dX8_init_87 rfl (lv_at hl 1 rfl) ?_
  obtain ⟨ok_84, h⟩ := h
  refine mm_gr hC hM (ci := 8) (j := 3) ok_84 rfl (by decide) (by decide) tw_305 rfl dX8_init_88 ?_
  refine lv_iload_n hC.1 hC.2.1 dX8_init_91 rfl (lv_at hl 0 rfl) ?_
  obtain ⟨ok_85, h⟩ := h
  refine mm_new hC hM (ci := 0) (ty := tyX0) ok_85 rfl tyX0_ok dvX0 tw_23 tw_24 tw_2 (by decide) (by decide) dX8_init_92 (fun S_86 H eS_86 hM => ?_)
  have h := h S_86 eS_86
  refine lv_dup hC.1 hC.2.1 dX8_init_95 rfl ?_
  refine mm_rv hM (mm_IN (As := []) (rest := [.ref (b0 + (S_81.1 + 1)), .int 2, .ref (b0 + (sR S_81 o 3))]) hC hM hl.1 (mX0_init l G b0 S_86 (S_81.1 + 1) _) h kX0_init nn_0 rfl (by decide) rfl (Nat.le_of_ble_eq_true rfl) dX8_init_96 (by decide)) (fun S_87 H locs h hM => ?_)
  obtain ⟨ok_89, h⟩ := h
  obtain ⟨ok_91, h⟩ := h
  refine mm_as hC hM (t0 := 2) (ci := 0) ok_89 ok_91 (by decide) rfl rfl dX8_init_99 (fun S_90 H locs eS_90 hM => ?_)
  have h := h S_90 eS_90
  refine lv_iinc (v := 3) (lv' := [(1, .int 3), (0, .ref (b0 + o))]) hC.1 hC.2.1 dX8_init_100 hl (k := 0) rfl (by decide) (by decide) rfl (fun ls hl => ?_)
  refine lv_goto (tgt := 82) hC.1 hC.2.1 dX8_init_103 (by decide) ?_
  refine lv_iload_n hC.1 hC.2.1 dX8_init_82 rfl (lv_at hl 0 rfl) ?_
  refine lv_iconst (v := 3) hC.1 hC.2.1 dX8_init_83 (by decide) ?_
  refine lv_icmp_ge (tgt := 106) hC.1 hC.2.1 dX8_init_84 (by decide) (fun _ => ?_) (fun z => absurd z (by decide))
  refine lv_aload_n hC.1 hC.2.1 dX8_init_106 rfl (lv_at hl 1 rfl) ?_
  refine lv_iconst (v := 3) hC.1 hC.2.1 dX8_init_107 (by decide) ?_
  obtain ⟨ok_93, h⟩ := h
  refine mm_newZ hC hM (N := 3) ok_93 (by decide) (by decide) (by decide) (by decide) (by decide) dX8_init_108 (fun S_94 H eS_94 hM => ?_)
  have h := h S_94 eS_94
  obtain ⟨ok_95, h⟩ := h
  obtain ⟨nz_97, h⟩ := h
  refine mm_prF hC hM (hin rfl) (ci := 8) (j := 4) (ty := (.array .boolean)) ok_95 nz_97 rfl (by decide) (by decide) tw_306 rfl rfl rfl (by decide +kernel) (fun _ => rfl) (fun _ => rfl) dX8_init_110 (fun S_96 H locs eS_96 hM => ?_)
  have h := h S_96 eS_96
  refine lv_aload_n hC.1 hC.2.1 dX8_init_113 rfl (lv_at hl 1 rfl) ?_
  obtain ⟨ok_98, h⟩ := h
  refine mm_new hC hM (ci := 1) (ty := tyX1) ok_98 rfl tyX1_ok dvX1 tw_156 tw_157 tw_6 (by decide) (by decide) dX8_init_114 (fun S_99 H eS_99 hM => ?_)
  have h := h S_99 eS_99
  refine lv_dup hC.1 hC.2.1 dX8_init_117 rfl ?_
  refine lv_aload_n hC.1 hC.2.1 dX8_init_118 rfl (lv_at hl 1 rfl) ?_
  obtain ⟨ok_100, h⟩ := h
  refine mm_gr hC hM (ci := 8) (j := 0) ok_100 rfl (by decide) (by decide) tw_302 rfl dX8_init_119 ?_
  refine lv_aload_n hC.1 hC.2.1 dX8_init_122 rfl (lv_at hl 1 rfl) ?_
  obtain ⟨ok_101, h⟩ := h
  refine mm_gr hC hM (ci := 8) (j := 1) ⟨ok_100.1, ok_101⟩ rfl (by decide) (by decide) tw_303 rfl dX8_init_123 ?_
  refine mm_rv hM (mm_I (As := [.ref (b0 + (sR S_99 o 0)), .ref (b0 + (sR S_99 o 1))]) (rest := [.ref (b0 + (S_96.1 + 1)), .ref (b0 + o)]) hC hM hl.1 (mX1_init l G b0 S_99 (S_96.1 + 1) (sR S_99 o 0) (sR S_99 o 1) _) h kX1_init tw_158 rfl (by decide) rfl (Nat.le_of_ble_eq_true rfl) dX8_init_126 (by decide)) (fun S_102 H locs h hM => ?_)
  obtain ⟨ok_104, h⟩ := h
  obtain ⟨nz_106, h⟩ := h
  refine mm_prF hC hM (hin rfl) (ci := 8) (j := 5) (ty := (.object "LeastRue$ByEnds")) ok_104 nz_106 rfl (by decide) (by decide) tw_307 rfl rfl rfl (by decide +kernel) (fun _ => rfl) (fun _ => rfl) dX8_init_129 (fun S_105 H locs eS_105 hM => ?_)
  have h := h S_105 eS_105
  refine lv_aload_n hC.1 hC.2.1 dX8_init_132 rfl (lv_at hl 1 rfl) ?_
  obtain ⟨ok_107, h⟩ := h
  refine mm_new hC hM (ci := 2) (ty := tyX2) ok_107 rfl tyX2_ok dvX2 tw_219 tw_220 tw_8 (by decide) (by decide) dX8_init_133 (fun S_108 H eS_108 hM => ?_)
  have h := h S_108 eS_108
  refine lv_dup hC.1 hC.2.1 dX8_init_136 rfl ?_
  refine lv_aload_n hC.1 hC.2.1 dX8_init_137 rfl (lv_at hl 1 rfl) ?_
  obtain ⟨ok_109, h⟩ := h
  refine mm_gr hC hM (ci := 8) (j := 0) ok_109 rfl (by decide) (by decide) tw_302 rfl dX8_init_138 ?_
  refine lv_aload_n hC.1 hC.2.1 dX8_init_141 rfl (lv_at hl 1 rfl) ?_
  obtain ⟨ok_110, h⟩ := h
  refine mm_gr hC hM (ci := 8) (j := 1) ⟨ok_109.1, ok_110⟩ rfl (by decide) (by decide) tw_303 rfl dX8_init_142 ?_
  refine mm_rv hM (mm_I (As := [.ref (b0 + (sR S_108 o 0)), .ref (b0 + (sR S_108 o 1))]) (rest := [.ref (b0 + (S_105.1 + 1)), .ref (b0 + o)]) hC hM hl.1 (mX2_init l G b0 S_108 (S_105.1 + 1) (sR S_108 o 0) (sR S_108 o 1) _) h kX2_init tw_221 rfl (by decide) rfl (Nat.le_of_ble_eq_true rfl) dX8_init_145 (by decide)) (fun S_111 H locs h hM => ?_)
  obtain ⟨ok_113, h⟩ := h
  obtain ⟨nz_115, h⟩ := h
  refine mm_prF hC hM (hin rfl) (ci := 8) (j := 6) (ty := (.object "LeastRue$ByWorlds")) ok_113 nz_115 rfl (by decide) (by decide) tw_308 rfl rfl rfl (by decide +kernel) (fun _ => rfl) (fun _ => rfl) dX8_init_148 (fun S_114 H locs eS_114 hM => ?_)
  have h := h S_114 eS_114
  refine lv_aload_n hC.1 hC.2.1 dX8_init_151 rfl (lv_at hl 1 rfl) ?_
  obtain ⟨ok_116, h⟩ := h
  refine mm_new hC hM (ci := 7) (ty := tyX7) ok_116 rfl tyX7_ok dvX7 tw_243 tw_244 tw_9 (by decide) (by decide) dX8_init_152 (fun S_117 H eS_117 hM => ?_)
  have h := h S_117 eS_117
  refine lv_dup hC.1 hC.2.1 dX8_init_155 rfl ?_
  refine lv_aload_n hC.1 hC.2.1 dX8_init_156 rfl (lv_at hl 1 rfl) ?_
  obtain ⟨ok_118, h⟩ := h
  refine mm_gr hC hM (ci := 8) (j := 0) ok_118 rfl (by decide) (by decide) tw_302 rfl dX8_init_157 ?_
  refine lv_aload_n hC.1 hC.2.1 dX8_init_160 rfl (lv_at hl 1 rfl) ?_
  obtain ⟨ok_119, h⟩ := h
  refine mm_gr hC hM (ci := 8) (j := 1) ⟨ok_118.1, ok_119⟩ rfl (by decide) (by decide) tw_303 rfl dX8_init_161 ?_
  refine mm_rv hM (mm_I (As := [.ref (b0 + (sR S_117 o 0)), .ref (b0 + (sR S_117 o 1))]) (rest := [.ref (b0 + (S_114.1 + 1)), .ref (b0 + o)]) hC hM hl.1 (mX7_init l G b0 S_117 (S_114.1 + 1) (sR S_117 o 0) (sR S_117 o 1) _) h kX7_init tw_245 rfl (by decide) rfl (Nat.le_of_ble_eq_true rfl) dX8_init_164 (by decide)) (fun S_120 H locs h hM => ?_)
  obtain ⟨ok_122, h⟩ := h
  obtain ⟨nz_124, h⟩ := h
  refine mm_prF hC hM (hin rfl) (ci := 8) (j := 7) (ty := (.object "LeastRue$TwoWorlds")) ok_122 nz_124 rfl (by decide) (by decide) tw_309 rfl rfl rfl (by decide +kernel) (fun _ => rfl) (fun _ => rfl) dX8_init_167 (fun S_123 H locs eS_123 hM => ?_)
  have h := h S_123 eS_123
  refine lv_aload_n hC.1 hC.2.1 dX8_init_170 rfl (lv_at hl 1 rfl) ?_
  obtain ⟨ok_125, h⟩ := h
  refine mm_new hC hM (ci := 6) (ty := tyX6) ok_125 rfl tyX6_ok dvX6 tw_275 tw_276 tw_10 (by decide) (by decide) dX8_init_171 (fun S_126 H eS_126 hM => ?_)
  have h := h S_126 eS_126
  refine lv_dup hC.1 hC.2.1 dX8_init_174 rfl ?_
  refine lv_aload_n hC.1 hC.2.1 dX8_init_175 rfl (lv_at hl 1 rfl) ?_
  obtain ⟨ok_127, h⟩ := h
  refine mm_gr hC hM (ci := 8) (j := 0) ok_127 rfl (by decide) (by decide) tw_302 rfl dX8_init_176 ?_
  refine lv_aload_n hC.1 hC.2.1 dX8_init_179 rfl (lv_at hl 1 rfl) ?_
  obtain ⟨ok_128, h⟩ := h
  refine mm_gr hC hM (ci := 8) (j := 1) ⟨ok_127.1, ok_128⟩ rfl (by decide) (by decide) tw_303 rfl dX8_init_180 ?_
  refine mm_rv hM (mm_I (As := [.ref (b0 + (sR S_126 o 0)), .ref (b0 + (sR S_126 o 1))]) (rest := [.ref (b0 + (S_123.1 + 1)), .ref (b0 + o)]) hC hM hl.1 (mX6_init l G b0 S_126 (S_123.1 + 1) (sR S_126 o 0) (sR S_126 o 1) _) h kX6_init tw_277 rfl (by decide) rfl (Nat.le_of_ble_eq_true rfl) dX8_init_183 (by decide)) (fun S_129 H locs h hM => ?_)
  obtain ⟨ok_131, h⟩ := h
  obtain ⟨nz_133, h⟩ := h
  refine mm_prF hC hM (hin rfl) (ci := 8) (j := 8) (ty := (.object "LeastRue$TwoSteps")) ok_131 nz_133 rfl (by decide) (by decide) tw_310 rfl rfl rfl (by decide +kernel) (fun _ => rfl) (fun _ => rfl) dX8_init_186 (fun S_132 H locs eS_132 hM => ?_)
  have h := h S_132 eS_132
  exact mm_vret hC hr hlk hM h dX8_init_189
set_option maxHeartbeats 4000000 in
set_option maxRecDepth 100000 in
theorem mX9_init (l : Launch) (G : Gt) (b0 : Nat) (S : St) (o : Nat) (K : St → Prop) : CV l G b0 S yX9_init cX9_init 1 none rmX9_init [.ref (b0 + o)] (wX9_init S o K) K := by
  refine met_of (by decide) (Nat.le_of_ble_eq_true rfl) rfl ?_
  intro p e s m below meth c hC hr hlk hin h H locs ls hM hl
  unfold wX9_init at h
  refine lv_aload_n hC.1 hC.2.1 dX9_init_0 rfl (lv_at hl 0 rfl) ?_
  refine mm_obj hC hl.1 tw_760 tw_21 tw_22 dX9_init_1 (by decide) (Nat.le_of_ble_eq_true rfl) ?_
  refine lv_aload_n hC.1 hC.2.1 dX9_init_4 rfl (lv_at hl 0 rfl) ?_
  refine lv_bipush (v := 12) hC.1 hC.2.1 dX9_init_5 (by decide) ?_
  obtain ⟨ok_1, h⟩ := h
  refine mm_newI hC hM (N := 12) ok_1 (by decide) (by decide) (by decide) (by decide) (by decide) dX9_init_7 (fun S_2 H eS_2 hM => ?_)
  have h := h S_2 eS_2
  obtain ⟨ok_3, h⟩ := h
  obtain ⟨nz_5, h⟩ := h
  refine mm_prF hC hM (hin rfl) (ci := 9) (j := 4) (ty := (.array .int)) ok_3 nz_5 rfl (by decide) (by decide) tw_795 rfl rfl rfl (by decide +kernel) (fun _ => rfl) (fun _ => rfl) dX9_init_9 (fun S_4 H locs eS_4 hM => ?_)
  have h := h S_4 eS_4
  refine lv_aload_n hC.1 hC.2.1 dX9_init_12 rfl (lv_at hl 0 rfl) ?_
  refine lv_bipush (v := 12) hC.1 hC.2.1 dX9_init_13 (by decide) ?_
  obtain ⟨ok_6, h⟩ := h
  refine mm_newI hC hM (N := 12) ok_6 (by decide) (by decide) (by decide) (by decide) (by decide) dX9_init_15 (fun S_7 H eS_7 hM => ?_)
  have h := h S_7 eS_7
  obtain ⟨ok_8, h⟩ := h
  obtain ⟨nz_10, h⟩ := h
  refine mm_prF hC hM (hin rfl) (ci := 9) (j := 5) (ty := (.array .int)) ok_8 nz_10 rfl (by decide) (by decide) tw_796 rfl rfl rfl (by decide +kernel) (fun _ => rfl) (fun _ => rfl) dX9_init_17 (fun S_9 H locs eS_9 hM => ?_)
  have h := h S_9 eS_9
  refine lv_aload_n hC.1 hC.2.1 dX9_init_20 rfl (lv_at hl 0 rfl) ?_
  refine lv_bipush (v := 12) hC.1 hC.2.1 dX9_init_21 (by decide) ?_
  obtain ⟨ok_11, h⟩ := h
  refine mm_newI hC hM (N := 12) ok_11 (by decide) (by decide) (by decide) (by decide) (by decide) dX9_init_23 (fun S_12 H eS_12 hM => ?_)
  have h := h S_12 eS_12
  obtain ⟨ok_13, h⟩ := h
  obtain ⟨nz_15, h⟩ := h
  refine mm_prF hC hM (hin rfl) (ci := 9) (j := 6) (ty := (.array .int)) ok_13 nz_15 rfl (by decide) (by decide) tw_797 rfl rfl rfl (by decide +kernel) (fun _ => rfl) (fun _ => rfl) dX9_init_25 (fun S_14 H locs eS_14 hM => ?_)
  have h := h S_14 eS_14
  refine lv_aload_n hC.1 hC.2.1 dX9_init_28 rfl (lv_at hl 0 rfl) ?_
  refine lv_bipush (v := 12) hC.1 hC.2.1 dX9_init_29 (by decide) ?_
  obtain ⟨ok_16, h⟩ := h
  refine mm_newI hC hM (N := 12) ok_16 (by decide) (by decide) (by decide) (by decide) (by decide) dX9_init_31 (fun S_17 H eS_17 hM => ?_)
  have h := h S_17 eS_17
  obtain ⟨ok_18, h⟩ := h
  obtain ⟨nz_20, h⟩ := h
  refine mm_prF hC hM (hin rfl) (ci := 9) (j := 7) (ty := (.array .int)) ok_18 nz_20 rfl (by decide) (by decide) tw_798 rfl rfl rfl (by decide +kernel) (fun _ => rfl) (fun _ => rfl) dX9_init_33 (fun S_19 H locs eS_19 hM => ?_)
  have h := h S_19 eS_19
  refine lv_aload_n hC.1 hC.2.1 dX9_init_36 rfl (lv_at hl 0 rfl) ?_
  refine lv_bipush (v := 12) hC.1 hC.2.1 dX9_init_37 (by decide) ?_
  obtain ⟨ok_21, h⟩ := h
  refine mm_newI hC hM (N := 12) ok_21 (by decide) (by decide) (by decide) (by decide) (by decide) dX9_init_39 (fun S_22 H eS_22 hM => ?_)
  have h := h S_22 eS_22
  obtain ⟨ok_23, h⟩ := h
  obtain ⟨nz_25, h⟩ := h
  refine mm_prF hC hM (hin rfl) (ci := 9) (j := 8) (ty := (.array .int)) ok_23 nz_25 rfl (by decide) (by decide) tw_799 rfl rfl rfl (by decide +kernel) (fun _ => rfl) (fun _ => rfl) dX9_init_41 (fun S_24 H locs eS_24 hM => ?_)
  have h := h S_24 eS_24
  refine lv_aload_n hC.1 hC.2.1 dX9_init_44 rfl (lv_at hl 0 rfl) ?_
  refine lv_bipush (v := 8) hC.1 hC.2.1 dX9_init_45 (by decide) ?_
  obtain ⟨ok_26, h⟩ := h
  refine mm_newZ hC hM (N := 8) ok_26 (by decide) (by decide) (by decide) (by decide) (by decide) dX9_init_47 (fun S_27 H eS_27 hM => ?_)
  have h := h S_27 eS_27
  obtain ⟨ok_28, h⟩ := h
  obtain ⟨nz_30, h⟩ := h
  refine mm_prF hC hM (hin rfl) (ci := 9) (j := 9) (ty := (.array .boolean)) ok_28 nz_30 rfl (by decide) (by decide) tw_800 rfl rfl rfl (by decide +kernel) (fun _ => rfl) (fun _ => rfl) dX9_init_49 (fun S_29 H locs eS_29 hM => ?_)
  have h := h S_29 eS_29
  refine lv_aload_n hC.1 hC.2.1 dX9_init_52 rfl (lv_at hl 0 rfl) ?_
  refine lv_bipush (v := 96) hC.1 hC.2.1 dX9_init_53 (by decide) ?_
  obtain ⟨ok_31, h⟩ := h
  refine mm_newI hC hM (N := 96) ok_31 (by decide) (by decide) (by decide) (by decide) (by decide) dX9_init_55 (fun S_32 H eS_32 hM => ?_)
  have h := h S_32 eS_32
  obtain ⟨ok_33, h⟩ := h
  obtain ⟨nz_35, h⟩ := h
  refine mm_prF hC hM (hin rfl) (ci := 9) (j := 10) (ty := (.array .int)) ok_33 nz_35 rfl (by decide) (by decide) tw_801 rfl rfl rfl (by decide +kernel) (fun _ => rfl) (fun _ => rfl) dX9_init_57 (fun S_34 H locs eS_34 hM => ?_)
  have h := h S_34 eS_34
  refine lv_aload_n hC.1 hC.2.1 dX9_init_60 rfl (lv_at hl 0 rfl) ?_
  refine lv_sipush (v := 501) hC.1 hC.2.1 dX9_init_61 (by decide) ?_
  obtain ⟨ok_36, h⟩ := h
  refine mm_newI hC hM (N := 501) ok_36 (by decide) (by decide) (by decide) (by decide) (by decide) dX9_init_64 (fun S_37 H eS_37 hM => ?_)
  have h := h S_37 eS_37
  obtain ⟨ok_38, h⟩ := h
  obtain ⟨nz_40, h⟩ := h
  refine mm_prF hC hM (hin rfl) (ci := 9) (j := 12) (ty := (.array .int)) ok_38 nz_40 rfl (by decide) (by decide) tw_803 rfl rfl rfl (by decide +kernel) (fun _ => rfl) (fun _ => rfl) dX9_init_66 (fun S_39 H locs eS_39 hM => ?_)
  have h := h S_39 eS_39
  refine lv_aload_n hC.1 hC.2.1 dX9_init_69 rfl (lv_at hl 0 rfl) ?_
  refine lv_iconst (v := 4) hC.1 hC.2.1 dX9_init_70 (by decide) ?_
  obtain ⟨ok_41, h⟩ := h
  refine mm_newI hC hM (N := 4) ok_41 (by decide) (by decide) (by decide) (by decide) (by decide) dX9_init_71 (fun S_42 H eS_42 hM => ?_)
  have h := h S_42 eS_42
  obtain ⟨ok_43, h⟩ := h
  obtain ⟨nz_45, h⟩ := h
  refine mm_prF hC hM (hin rfl) (ci := 9) (j := 13) (ty := (.array .int)) ok_43 nz_45 rfl (by decide) (by decide) tw_804 rfl rfl rfl (by decide +kernel) (fun _ => rfl) (fun _ => rfl) dX9_init_73 (fun S_44 H locs eS_44 hM => ?_)
  have h := h S_44 eS_44
  refine lv_aload_n hC.1 hC.2.1 dX9_init_76 rfl (lv_at hl 0 rfl) ?_
  refine lv_iconst (v := 4) hC.1 hC.2.1 dX9_init_77 (by decide) ?_
  obtain ⟨ok_46, h⟩ := h
  refine mm_newI hC hM (N := 4) ok_46 (by decide) (by decide) (by decide) (by decide) (by decide) dX9_init_78 (fun S_47 H eS_47 hM => ?_)
  have h := h S_47 eS_47
  refine lv_dup hC.1 hC.2.1 dX9_init_80 rfl ?_
  refine lv_iconst (v := 0) hC.1 hC.2.1 dX9_init_81 (by decide) ?_
  refine lv_iconst (v := (-1)) hC.1 hC.2.1 dX9_init_82 (by decide) ?_
  obtain ⟨ok_48, h⟩ := h
  refine mm_is hC hM ok_48 dX9_init_83 (fun S_49 H locs eS_49 hM => ?_)
  have h := h S_49 eS_49
  refine lv_dup hC.1 hC.2.1 dX9_init_84 rfl ?_
  refine lv_iconst (v := 1) hC.1 hC.2.1 dX9_init_85 (by decide) ?_
  refine lv_iconst (v := (-1)) hC.1 hC.2.1 dX9_init_86 (by decide) ?_
  obtain ⟨ok_50, h⟩ := h
  refine mm_is hC hM ok_50 dX9_init_87 (fun S_51 H locs eS_51 hM => ?_)
  have h := h S_51 eS_51
  refine lv_dup hC.1 hC.2.1 dX9_init_88 rfl ?_
  refine lv_iconst (v := 2) hC.1 hC.2.1 dX9_init_89 (by decide) ?_
  refine lv_iconst (v := (-1)) hC.1 hC.2.1 dX9_init_90 (by decide) ?_
  obtain ⟨ok_52, h⟩ := h
  refine mm_is hC hM ok_52 dX9_init_91 (fun S_53 H locs eS_53 hM => ?_)
  have h := h S_53 eS_53
  refine lv_dup hC.1 hC.2.1 dX9_init_92 rfl ?_
  refine lv_iconst (v := 3) hC.1 hC.2.1 dX9_init_93 (by decide) ?_
  refine lv_iconst (v := (-1)) hC.1 hC.2.1 dX9_init_94 (by decide) ?_
  obtain ⟨ok_54, h⟩ := h
  refine mm_is hC hM ok_54 dX9_init_95 (fun S_55 H locs eS_55 hM => ?_)
  have h := h S_55 eS_55
  obtain ⟨ok_56, h⟩ := h
  obtain ⟨nz_58, h⟩ := h
  refine mm_prF hC hM (hin rfl) (ci := 9) (j := 14) (ty := (.array .int)) ok_56 nz_58 rfl (by decide) (by decide) tw_805 rfl rfl rfl (by decide +kernel) (fun _ => rfl) (fun _ => rfl) dX9_init_96 (fun S_57 H locs eS_57 hM => ?_)
  have h := h S_57 eS_57
  refine lv_aload_n hC.1 hC.2.1 dX9_init_99 rfl (lv_at hl 0 rfl) ?_
  refine lv_sipush (v := 400) hC.1 hC.2.1 dX9_init_100 (by decide) ?_
  obtain ⟨ok_59, h⟩ := h
  refine mm_newI hC hM (N := 400) ok_59 (by decide) (by decide) (by decide) (by decide) (by decide) dX9_init_103 (fun S_60 H eS_60 hM => ?_)
  have h := h S_60 eS_60
  obtain ⟨ok_61, h⟩ := h
  obtain ⟨nz_63, h⟩ := h
  refine mm_prF hC hM (hin rfl) (ci := 9) (j := 15) (ty := (.array .int)) ok_61 nz_63 rfl (by decide) (by decide) tw_806 rfl rfl rfl (by decide +kernel) (fun _ => rfl) (fun _ => rfl) dX9_init_105 (fun S_62 H locs eS_62 hM => ?_)
  have h := h S_62 eS_62
  refine lv_aload_n hC.1 hC.2.1 dX9_init_108 rfl (lv_at hl 0 rfl) ?_
  refine lv_sipush (v := 500) hC.1 hC.2.1 dX9_init_109 (by decide) ?_
  obtain ⟨ok_64, h⟩ := h
  refine mm_newI hC hM (N := 500) ok_64 (by decide) (by decide) (by decide) (by decide) (by decide) dX9_init_112 (fun S_65 H eS_65 hM => ?_)
  have h := h S_65 eS_65
  obtain ⟨ok_66, h⟩ := h
  obtain ⟨nz_68, h⟩ := h
  refine mm_prF hC hM (hin rfl) (ci := 9) (j := 16) (ty := (.array .int)) ok_66 nz_68 rfl (by decide) (by decide) tw_807 rfl rfl rfl (by decide +kernel) (fun _ => rfl) (fun _ => rfl) dX9_init_114 (fun S_67 H locs eS_67 hM => ?_)
  have h := h S_67 eS_67
  refine lv_aload_n hC.1 hC.2.1 dX9_init_117 rfl (lv_at hl 0 rfl) ?_
  refine lv_sipush (v := 500) hC.1 hC.2.1 dX9_init_118 (by decide) ?_
  obtain ⟨ok_69, h⟩ := h
  refine mm_newI hC hM (N := 500) ok_69 (by decide) (by decide) (by decide) (by decide) (by decide) dX9_init_121 (fun S_70 H eS_70 hM => ?_)
  have h := h S_70 eS_70
  obtain ⟨ok_71, h⟩ := h
  obtain ⟨nz_73, h⟩ := h
  refine mm_prF hC hM (hin rfl) (ci := 9) (j := 19) (ty := (.array .int)) ok_71 nz_73 rfl (by decide) (by decide) tw_810 rfl rfl rfl (by decide +kernel) (fun _ => rfl) (fun _ => rfl) dX9_init_123 (fun S_72 H locs eS_72 hM => ?_)
  have h := h S_72 eS_72
  refine lv_aload_n hC.1 hC.2.1 dX9_init_126 rfl (lv_at hl 0 rfl) ?_
  refine lv_sipush (v := 500) hC.1 hC.2.1 dX9_init_127 (by decide) ?_
  obtain ⟨ok_74, h⟩ := h
  refine mm_newI hC hM (N := 500) ok_74 (by decide) (by decide) (by decide) (by decide) (by decide) dX9_init_130 (fun S_75 H eS_75 hM => ?_)
  have h := h S_75 eS_75
  obtain ⟨ok_76, h⟩ := h
  obtain ⟨nz_78, h⟩ := h
  refine mm_prF hC hM (hin rfl) (ci := 9) (j := 20) (ty := (.array .int)) ok_76 nz_78 rfl (by decide) (by decide) tw_811 rfl rfl rfl (by decide +kernel) (fun _ => rfl) (fun _ => rfl) dX9_init_132 (fun S_77 H locs eS_77 hM => ?_)
  have h := h S_77 eS_77
  refine lv_aload_n hC.1 hC.2.1 dX9_init_135 rfl (lv_at hl 0 rfl) ?_
  refine lv_iconst (v := 3) hC.1 hC.2.1 dX9_init_136 (by decide) ?_
  obtain ⟨ok_79, h⟩ := h
  refine mm_newZ hC hM (N := 3) ok_79 (by decide) (by decide) (by decide) (by decide) (by decide) dX9_init_137 (fun S_80 H eS_80 hM => ?_)
  have h := h S_80 eS_80
  obtain ⟨ok_81, h⟩ := h
  obtain ⟨nz_83, h⟩ := h
  refine mm_prF hC hM (hin rfl) (ci := 9) (j := 21) (ty := (.array .boolean)) ok_81 nz_83 rfl (by decide) (by decide) tw_812 rfl rfl rfl (by decide +kernel) (fun _ => rfl) (fun _ => rfl) dX9_init_139 (fun S_82 H locs eS_82 hM => ?_)
  have h := h S_82 eS_82
  refine lv_aload_n hC.1 hC.2.1 dX9_init_142 rfl (lv_at hl 0 rfl) ?_
  refine lv_sipush (v := 600) hC.1 hC.2.1 dX9_init_143 (by decide) ?_
  obtain ⟨ok_84, h⟩ := h
  refine mm_newI hC hM (N := 600) ok_84 (by decide) (by decide) (by decide) (by decide) (by decide) dX9_init_146 (fun S_85 H eS_85 hM => ?_)
  have h := h S_85 eS_85
  obtain ⟨ok_86, h⟩ := h
  obtain ⟨nz_88, h⟩ := h
  refine mm_prF hC hM (hin rfl) (ci := 9) (j := 22) (ty := (.array .int)) ok_86 nz_88 rfl (by decide) (by decide) tw_813 rfl rfl rfl (by decide +kernel) (fun _ => rfl) (fun _ => rfl) dX9_init_148 (fun S_87 H locs eS_87 hM => ?_)
  have h := h S_87 eS_87
  refine lv_aload_n hC.1 hC.2.1 dX9_init_151 rfl (lv_at hl 0 rfl) ?_
  obtain ⟨ok_91, h⟩ := h
  refine mm_ri hM (mm_V (As := []) (rest := []) hC hM hl.1 (mX9_gathers l G b0 S_87 o _) h (ci := 9) ok_91 rfl rfl kX9_gathers tw_761 rfl (by decide) rfl (Nat.le_of_ble_eq_true rfl) dX9_init_152 (by decide)) (fun r_90 S_89 H locs h hM => ?_)
  refine lv_pop hC.1 hC.2.1 dX9_init_155 rfl ?_
  exact mm_vret hC hr hlk hM h dX9_init_156
