def lw_g : List Cond := lw_tbl.filter goodWord
theorem lw_g_of {w : Cond} (h : w ∈ lw_tbl) (g : goodWord w = true) : w ∈ lw_g := List.mem_filter.mpr ⟨h, g⟩
theorem inX0 : ∀ w ∈ u_ws RX0 TX0 10, w ∈ lw_g := by
  intro w h
  have g := List.all_eq_true.mp (show (u_ws RX0 TX0 10).all goodWord = true from by decide +kernel) w h
  rw [show u_ws RX0 TX0 10 = [115, 117, 119, 121, 123, 125, 127, 129, 131, 133].filterMap (fun i => lw_tbl[i]?) from by decide +kernel] at h
  obtain ⟨i, -, hi⟩ := List.mem_filterMap.mp h
  exact lw_g_of (List.mem_of_getElem? hi) g
theorem inX1 : ∀ w ∈ u_ws RX1 TX1 14, w ∈ lw_g := by
  intro w h
  have g := List.all_eq_true.mp (show (u_ws RX1 TX1 14).all goodWord = true from by decide +kernel) w h
  rw [show u_ws RX1 TX1 14 = [245, 247, 249, 251, 253, 255, 257, 259, 261, 263, 265, 267, 269, 271].filterMap (fun i => lw_tbl[i]?) from by decide +kernel] at h
  obtain ⟨i, -, hi⟩ := List.mem_filterMap.mp h
  exact lw_g_of (List.mem_of_getElem? hi) g
theorem inX2 : ∀ w ∈ u_ws RX2 TX2 5, w ∈ lw_g := by
  intro w h
  have g := List.all_eq_true.mp (show (u_ws RX2 TX2 5).all goodWord = true from by decide +kernel) w h
  rw [show u_ws RX2 TX2 5 = [287, 289, 291, 293, 295].filterMap (fun i => lw_tbl[i]?) from by decide +kernel] at h
  obtain ⟨i, -, hi⟩ := List.mem_filterMap.mp h
  exact lw_g_of (List.mem_of_getElem? hi) g
theorem inX3 : ∀ w ∈ u_ws RX3 TX3 3, w ∈ lw_g := by
  intro w h
  have g := List.all_eq_true.mp (show (u_ws RX3 TX3 3).all goodWord = true from by decide +kernel) w h
  rw [show u_ws RX3 TX3 3 = [156, 158, 160].filterMap (fun i => lw_tbl[i]?) from by decide +kernel] at h
  obtain ⟨i, -, hi⟩ := List.mem_filterMap.mp h
  exact lw_g_of (List.mem_of_getElem? hi) g
theorem inX4 : ∀ w ∈ u_ws RX4 TX4 3, w ∈ lw_g := by
  intro w h
  have g := List.all_eq_true.mp (show (u_ws RX4 TX4 3).all goodWord = true from by decide +kernel) w h
  rw [show u_ws RX4 TX4 3 = [203, 205, 207].filterMap (fun i => lw_tbl[i]?) from by decide +kernel] at h
  obtain ⟨i, -, hi⟩ := List.mem_filterMap.mp h
  exact lw_g_of (List.mem_of_getElem? hi) g
theorem inX5 : ∀ w ∈ u_ws RX5 TX5 2, w ∈ lw_g := by
  intro w h
  have g := List.all_eq_true.mp (show (u_ws RX5 TX5 2).all goodWord = true from by decide +kernel) w h
  rw [show u_ws RX5 TX5 2 = [225, 227].filterMap (fun i => lw_tbl[i]?) from by decide +kernel] at h
  obtain ⟨i, -, hi⟩ := List.mem_filterMap.mp h
  exact lw_g_of (List.mem_of_getElem? hi) g
theorem inX6 : ∀ w ∈ u_ws RX6 TX6 6, w ∈ lw_g := by
  intro w h
  have g := List.all_eq_true.mp (show (u_ws RX6 TX6 6).all goodWord = true from by decide +kernel) w h
  rw [show u_ws RX6 TX6 6 = [344, 346, 348, 350, 352, 354].filterMap (fun i => lw_tbl[i]?) from by decide +kernel] at h
  obtain ⟨i, -, hi⟩ := List.mem_filterMap.mp h
  exact lw_g_of (List.mem_of_getElem? hi) g
theorem inX7 : ∀ w ∈ u_ws RX7 TX7 7, w ∈ lw_g := by
  intro w h
  have g := List.all_eq_true.mp (show (u_ws RX7 TX7 7).all goodWord = true from by decide +kernel) w h
  rw [show u_ws RX7 TX7 7 = [315, 317, 319, 321, 323, 325, 327].filterMap (fun i => lw_tbl[i]?) from by decide +kernel] at h
  obtain ⟨i, -, hi⟩ := List.mem_filterMap.mp h
  exact lw_g_of (List.mem_of_getElem? hi) g
theorem inX8 : ∀ w ∈ u_ws RX8 TX8 10, w ∈ lw_g := by
  intro w h
  have g := List.all_eq_true.mp (show (u_ws RX8 TX8 10).all goodWord = true from by decide +kernel) w h
  rw [show u_ws RX8 TX8 10 = [367, 369, 371, 373, 375, 377, 379, 381, 383, 385].filterMap (fun i => lw_tbl[i]?) from by decide +kernel] at h
  obtain ⟨i, -, hi⟩ := List.mem_filterMap.mp h
  exact lw_g_of (List.mem_of_getElem? hi) g
theorem inX9 : ∀ w ∈ u_ws RX9 TX9 23, w ∈ lw_g := by
  intro w h
  have g := List.all_eq_true.mp (show (u_ws RX9 TX9 23).all goodWord = true from by decide +kernel) w h
  rw [show u_ws RX9 TX9 23 = [869, 871, 873, 875, 877, 879, 881, 883, 885, 887, 889, 891, 893, 895, 897, 899, 901, 903, 905, 907, 909, 911, 913].filterMap (fun i => lw_tbl[i]?) from by decide +kernel] at h
  obtain ⟨i, -, hi⟩ := List.mem_filterMap.mp h
  exact lw_g_of (List.mem_of_getElem? hi) g
theorem tc_s {w : Cond} (h : w ∈ k2_sels lw_privs) (g : goodWord w = true) : w ∈ lw_g := lw_g_of (List.mem_append_left _ h) g
theorem tc_1 {w : Cond} (h : w ∈ tables_1_1) (g : goodWord w = true) : w ∈ lw_g := lw_g_of (List.mem_append_right _ (show w ∈ tables_1 from (List.mem_append_left _ h))) g
theorem tn_1 {w : Cond} (h : w ∈ tables_1_1) : w ∈ lw_tbl := List.mem_append_right _ (show w ∈ tables_1 from (List.mem_append_left _ h))
theorem tc_2 {w : Cond} (h : w ∈ tables_1_2) (g : goodWord w = true) : w ∈ lw_g := lw_g_of (List.mem_append_right _ (show w ∈ tables_1 from (List.mem_append_right _ (List.mem_append_left _ h)))) g
theorem tn_2 {w : Cond} (h : w ∈ tables_1_2) : w ∈ lw_tbl := List.mem_append_right _ (show w ∈ tables_1 from (List.mem_append_right _ (List.mem_append_left _ h)))
theorem tc_3 {w : Cond} (h : w ∈ tables_1_3) (g : goodWord w = true) : w ∈ lw_g := lw_g_of (List.mem_append_right _ (show w ∈ tables_1 from (List.mem_append_right _ (List.mem_append_right _ (List.mem_append_left _ h))))) g
theorem tn_3 {w : Cond} (h : w ∈ tables_1_3) : w ∈ lw_tbl := List.mem_append_right _ (show w ∈ tables_1 from (List.mem_append_right _ (List.mem_append_right _ (List.mem_append_left _ h))))
theorem tc_4 {w : Cond} (h : w ∈ tables_1_4) (g : goodWord w = true) : w ∈ lw_g := lw_g_of (List.mem_append_right _ (show w ∈ tables_1 from (List.mem_append_right _ (List.mem_append_right _ (List.mem_append_right _ (List.mem_append_left _ h)))))) g
theorem tn_4 {w : Cond} (h : w ∈ tables_1_4) : w ∈ lw_tbl := List.mem_append_right _ (show w ∈ tables_1 from (List.mem_append_right _ (List.mem_append_right _ (List.mem_append_right _ (List.mem_append_left _ h)))))
theorem tc_5 {w : Cond} (h : w ∈ tables_1_5) (g : goodWord w = true) : w ∈ lw_g := lw_g_of (List.mem_append_right _ (show w ∈ tables_1 from (List.mem_append_right _ (List.mem_append_right _ (List.mem_append_right _ (List.mem_append_right _ h)))))) g
theorem tn_5 {w : Cond} (h : w ∈ tables_1_5) : w ∈ lw_tbl := List.mem_append_right _ (show w ∈ tables_1 from (List.mem_append_right _ (List.mem_append_right _ (List.mem_append_right _ (List.mem_append_right _ h)))))
theorem ts_0 : (Cond.selects (⟨"LeastRue$Bench", "isWay", "(I)Z"⟩ : MethodName).cls ⟨"LeastRue$Bench", "isWay", "(I)Z"⟩ ⟨"LeastRue$Bench", "isWay", "(I)Z"⟩) ∈ lw_g := tc_s (List.mem_of_getElem? (i := 0) rfl) rfl
theorem ts_1 : (Cond.selects (⟨"LeastRue$Bench", "roadFrom", "(II)I"⟩ : MethodName).cls ⟨"LeastRue$Bench", "roadFrom", "(II)I"⟩ ⟨"LeastRue$Bench", "roadFrom", "(II)I"⟩) ∈ lw_g := tc_s (List.mem_of_getElem? (i := 1) rfl) rfl
theorem ts_2 : (Cond.selects (⟨"LeastRue$Bench", "holdsTogether", "(I)Z"⟩ : MethodName).cls ⟨"LeastRue$Bench", "holdsTogether", "(I)Z"⟩ ⟨"LeastRue$Bench", "holdsTogether", "(I)Z"⟩) ∈ lw_g := tc_s (List.mem_of_getElem? (i := 2) rfl) rfl
theorem ts_3 : (Cond.selects (⟨"LeastRue$Bench", "meetsAllPosts", "(I)Z"⟩ : MethodName).cls ⟨"LeastRue$Bench", "meetsAllPosts", "(I)Z"⟩ ⟨"LeastRue$Bench", "meetsAllPosts", "(I)Z"⟩) ∈ lw_g := tc_s (List.mem_of_getElem? (i := 3) rfl) rfl
theorem ts_4 : (Cond.selects (⟨"LeastRue", "refused", "(I)I"⟩ : MethodName).cls ⟨"LeastRue", "refused", "(I)I"⟩ ⟨"LeastRue", "refused", "(I)I"⟩) ∈ lw_g := tc_s (List.mem_of_getElem? (i := 4) rfl) rfl
theorem ts_5 : (Cond.selects (⟨"LeastRue", "accepted", "(I)I"⟩ : MethodName).cls ⟨"LeastRue", "accepted", "(I)I"⟩ ⟨"LeastRue", "accepted", "(I)I"⟩) ∈ lw_g := tc_s (List.mem_of_getElem? (i := 5) rfl) rfl
theorem ts_6 : (Cond.selects (⟨"LeastRue", "isThing", "(I)Z"⟩ : MethodName).cls ⟨"LeastRue", "isThing", "(I)Z"⟩ ⟨"LeastRue", "isThing", "(I)Z"⟩) ∈ lw_g := tc_s (List.mem_of_getElem? (i := 6) rfl) rfl
theorem ts_7 : (Cond.selects (⟨"LeastRue", "holdsCosts", "(LLeastRue$Sheet;I)Z"⟩ : MethodName).cls ⟨"LeastRue", "holdsCosts", "(LLeastRue$Sheet;I)Z"⟩ ⟨"LeastRue", "holdsCosts", "(LLeastRue$Sheet;I)Z"⟩) ∈ lw_g := tc_s (List.mem_of_getElem? (i := 7) rfl) rfl
theorem ts_8 : (Cond.selects (⟨"LeastRue", "sheetsThere", "()I"⟩ : MethodName).cls ⟨"LeastRue", "sheetsThere", "()I"⟩ ⟨"LeastRue", "sheetsThere", "()I"⟩) ∈ lw_g := tc_s (List.mem_of_getElem? (i := 8) rfl) rfl
theorem ts_9 : (Cond.selects (⟨"LeastRue", "costOfThing", "(II)I"⟩ : MethodName).cls ⟨"LeastRue", "costOfThing", "(II)I"⟩ ⟨"LeastRue", "costOfThing", "(II)I"⟩) ∈ lw_g := tc_s (List.mem_of_getElem? (i := 9) rfl) rfl
theorem ts_10 : (Cond.selects (⟨"LeastRue", "isBeyondThings", "(I)Z"⟩ : MethodName).cls ⟨"LeastRue", "isBeyondThings", "(I)Z"⟩ ⟨"LeastRue", "isBeyondThings", "(I)Z"⟩) ∈ lw_g := tc_s (List.mem_of_getElem? (i := 10) rfl) rfl
theorem ts_11 : (Cond.selects (⟨"LeastRue$ByEnds", "sumUp", "()V"⟩ : MethodName).cls ⟨"LeastRue$ByEnds", "sumUp", "()V"⟩ ⟨"LeastRue$ByEnds", "sumUp", "()V"⟩) ∈ lw_g := tc_s (List.mem_of_getElem? (i := 11) rfl) rfl
theorem ts_12 : (Cond.selects (⟨"LeastRue$ByEnds", "rueInWorst", "(I)I"⟩ : MethodName).cls ⟨"LeastRue$ByEnds", "rueInWorst", "(I)I"⟩ ⟨"LeastRue$ByEnds", "rueInWorst", "(I)I"⟩) ∈ lw_g := tc_s (List.mem_of_getElem? (i := 12) rfl) rfl
theorem ts_13 : (Cond.selects (⟨"LeastRue$ByEnds", "rueAll", "()V"⟩ : MethodName).cls ⟨"LeastRue$ByEnds", "rueAll", "()V"⟩ ⟨"LeastRue$ByEnds", "rueAll", "()V"⟩) ∈ lw_g := tc_s (List.mem_of_getElem? (i := 13) rfl) rfl
theorem ts_14 : (Cond.selects (⟨"LeastRue$ByEnds", "sortThings", "()V"⟩ : MethodName).cls ⟨"LeastRue$ByEnds", "sortThings", "()V"⟩ ⟨"LeastRue$ByEnds", "sortThings", "()V"⟩) ∈ lw_g := tc_s (List.mem_of_getElem? (i := 14) rfl) rfl
theorem ts_15 : (Cond.selects (⟨"LeastRue$ByEnds", "sortByFairestWorldOf", "(I)V"⟩ : MethodName).cls ⟨"LeastRue$ByEnds", "sortByFairestWorldOf", "(I)V"⟩ ⟨"LeastRue$ByEnds", "sortByFairestWorldOf", "(I)V"⟩) ∈ lw_g := tc_s (List.mem_of_getElem? (i := 15) rfl) rfl
theorem ts_16 : (Cond.selects (⟨"LeastRue$ByEnds", "widestGaps", "(II)I"⟩ : MethodName).cls ⟨"LeastRue$ByEnds", "widestGaps", "(II)I"⟩ ⟨"LeastRue$ByEnds", "widestGaps", "(II)I"⟩) ∈ lw_g := tc_s (List.mem_of_getElem? (i := 16) rfl) rfl
theorem ts_17 : (Cond.selects (⟨"LeastRue$ByEnds", "widestOf", "(I)I"⟩ : MethodName).cls ⟨"LeastRue$ByEnds", "widestOf", "(I)I"⟩ ⟨"LeastRue$ByEnds", "widestOf", "(I)I"⟩) ∈ lw_g := tc_s (List.mem_of_getElem? (i := 17) rfl) rfl
theorem ts_18 : (Cond.selects (⟨"LeastRue$ByWorlds", "rueAll", "()V"⟩ : MethodName).cls ⟨"LeastRue$ByWorlds", "rueAll", "()V"⟩ ⟨"LeastRue$ByWorlds", "rueAll", "()V"⟩) ∈ lw_g := tc_s (List.mem_of_getElem? (i := 18) rfl) rfl
theorem ts_19 : (Cond.selects (⟨"LeastRue$ByWorlds", "rueThere", "(I)V"⟩ : MethodName).cls ⟨"LeastRue$ByWorlds", "rueThere", "(I)V"⟩ ⟨"LeastRue$ByWorlds", "rueThere", "(I)V"⟩) ∈ lw_g := tc_s (List.mem_of_getElem? (i := 19) rfl) rfl
theorem ts_20 : (Cond.selects (⟨"LeastRue$TwoWorlds", "fillRues", "([II)V"⟩ : MethodName).cls ⟨"LeastRue$TwoWorlds", "fillRues", "([II)V"⟩ ⟨"LeastRue$TwoWorlds", "fillRues", "([II)V"⟩) ∈ lw_g := tc_s (List.mem_of_getElem? (i := 20) rfl) rfl
theorem ts_21 : (Cond.selects (⟨"LeastRue$TwoWorlds", "leftmostBelow", "(I)I"⟩ : MethodName).cls ⟨"LeastRue$TwoWorlds", "leftmostBelow", "(I)I"⟩ ⟨"LeastRue$TwoWorlds", "leftmostBelow", "(I)I"⟩) ∈ lw_g := tc_s (List.mem_of_getElem? (i := 21) rfl) rfl
theorem ts_22 : (Cond.selects (⟨"LeastRue$TwoWorlds", "leastBy", "([I[I)I"⟩ : MethodName).cls ⟨"LeastRue$TwoWorlds", "leastBy", "([I[I)I"⟩ ⟨"LeastRue$TwoWorlds", "leastBy", "([I[I)I"⟩) ∈ lw_g := tc_s (List.mem_of_getElem? (i := 22) rfl) rfl
theorem ts_23 : (Cond.selects (⟨"LeastRue$TwoWorlds", "lowestUnder", "(II)I"⟩ : MethodName).cls ⟨"LeastRue$TwoWorlds", "lowestUnder", "(II)I"⟩ ⟨"LeastRue$TwoWorlds", "lowestUnder", "(II)I"⟩) ∈ lw_g := tc_s (List.mem_of_getElem? (i := 23) rfl) rfl
theorem ts_24 : (Cond.selects (⟨"LeastRue$TwoWorlds", "meet", "(II)V"⟩ : MethodName).cls ⟨"LeastRue$TwoWorlds", "meet", "(II)V"⟩ ⟨"LeastRue$TwoWorlds", "meet", "(II)V"⟩) ∈ lw_g := tc_s (List.mem_of_getElem? (i := 24) rfl) rfl
theorem ts_25 : (Cond.selects (⟨"LeastRue$TwoSteps", "leastLater", "(II)I"⟩ : MethodName).cls ⟨"LeastRue$TwoSteps", "leastLater", "(II)I"⟩ ⟨"LeastRue$TwoSteps", "leastLater", "(II)I"⟩) ∈ lw_g := tc_s (List.mem_of_getElem? (i := 25) rfl) rfl
theorem ts_26 : (Cond.selects (⟨"LeastRue$TwoSteps", "spreadLeast", "([II)V"⟩ : MethodName).cls ⟨"LeastRue$TwoSteps", "spreadLeast", "([II)V"⟩ ⟨"LeastRue$TwoSteps", "spreadLeast", "([II)V"⟩) ∈ lw_g := tc_s (List.mem_of_getElem? (i := 26) rfl) rfl
theorem ts_27 : (Cond.selects (⟨"LeastRue$TwoSteps", "settle", "(III)V"⟩ : MethodName).cls ⟨"LeastRue$TwoSteps", "settle", "(III)V"⟩ ⟨"LeastRue$TwoSteps", "settle", "(III)V"⟩) ∈ lw_g := tc_s (List.mem_of_getElem? (i := 27) rfl) rfl
theorem ts_28 : (Cond.selects (⟨"LeastRueModel", "gathers", "()Z"⟩ : MethodName).cls ⟨"LeastRueModel", "gathers", "()Z"⟩ ⟨"LeastRueModel", "gathers", "()Z"⟩) ∈ lw_g := tc_s (List.mem_of_getElem? (i := 28) rfl) rfl
theorem ts_29 : (Cond.selects (⟨"LeastRueModel", "isChoice", "(I)Z"⟩ : MethodName).cls ⟨"LeastRueModel", "isChoice", "(I)Z"⟩ ⟨"LeastRueModel", "isChoice", "(I)Z"⟩) ∈ lw_g := tc_s (List.mem_of_getElem? (i := 29) rfl) rfl
theorem ts_30 : (Cond.selects (⟨"LeastRueModel", "isWay", "(I)Z"⟩ : MethodName).cls ⟨"LeastRueModel", "isWay", "(I)Z"⟩ ⟨"LeastRueModel", "isWay", "(I)Z"⟩) ∈ lw_g := tc_s (List.mem_of_getElem? (i := 30) rfl) rfl
theorem ts_31 : (Cond.selects (⟨"LeastRueModel", "reached", "(I)I"⟩ : MethodName).cls ⟨"LeastRueModel", "reached", "(I)I"⟩ ⟨"LeastRueModel", "reached", "(I)I"⟩) ∈ lw_g := tc_s (List.mem_of_getElem? (i := 31) rfl) rfl
theorem ts_32 : (Cond.selects (⟨"LeastRueModel", "isTree", "(I)Z"⟩ : MethodName).cls ⟨"LeastRueModel", "isTree", "(I)Z"⟩ ⟨"LeastRueModel", "isTree", "(I)Z"⟩) ∈ lw_g := tc_s (List.mem_of_getElem? (i := 32) rfl) rfl
theorem ts_33 : (Cond.selects (⟨"LeastRueModel", "isPairs", "(I)Z"⟩ : MethodName).cls ⟨"LeastRueModel", "isPairs", "(I)Z"⟩ ⟨"LeastRueModel", "isPairs", "(I)Z"⟩) ∈ lw_g := tc_s (List.mem_of_getElem? (i := 33) rfl) rfl
theorem ts_34 : (Cond.selects (⟨"LeastRueModel", "tells", "(I)I"⟩ : MethodName).cls ⟨"LeastRueModel", "tells", "(I)I"⟩ ⟨"LeastRueModel", "tells", "(I)I"⟩) ∈ lw_g := tc_s (List.mem_of_getElem? (i := 34) rfl) rfl
theorem ts_35 : (Cond.selects (⟨"LeastRueModel", "isThing", "(I)Z"⟩ : MethodName).cls ⟨"LeastRueModel", "isThing", "(I)Z"⟩ ⟨"LeastRueModel", "isThing", "(I)Z"⟩) ∈ lw_g := tc_s (List.mem_of_getElem? (i := 35) rfl) rfl
theorem ts_36 : (Cond.selects (⟨"LeastRueModel", "stands", "(III)I"⟩ : MethodName).cls ⟨"LeastRueModel", "stands", "(III)I"⟩ ⟨"LeastRueModel", "stands", "(III)I"⟩) ∈ lw_g := tc_s (List.mem_of_getElem? (i := 36) rfl) rfl
theorem ts_37 : (Cond.selects (⟨"LeastRueModel", "worlds", "()I"⟩ : MethodName).cls ⟨"LeastRueModel", "worlds", "()I"⟩ ⟨"LeastRueModel", "worlds", "()I"⟩) ∈ lw_g := tc_s (List.mem_of_getElem? (i := 37) rfl) rfl
theorem ts_38 : (Cond.selects (⟨"LeastRueModel", "isChoiceNumber", "(I)Z"⟩ : MethodName).cls ⟨"LeastRueModel", "isChoiceNumber", "(I)Z"⟩ ⟨"LeastRueModel", "isChoiceNumber", "(I)Z"⟩) ∈ lw_g := tc_s (List.mem_of_getElem? (i := 38) rfl) rfl
theorem ts_39 : (Cond.selects (⟨"LeastRueModel", "isSet", "(I)Z"⟩ : MethodName).cls ⟨"LeastRueModel", "isSet", "(I)Z"⟩ ⟨"LeastRueModel", "isSet", "(I)Z"⟩) ∈ lw_g := tc_s (List.mem_of_getElem? (i := 39) rfl) rfl
theorem ts_40 : (Cond.selects (⟨"LeastRueModel", "sum", "(II)I"⟩ : MethodName).cls ⟨"LeastRueModel", "sum", "(II)I"⟩ ⟨"LeastRueModel", "sum", "(II)I"⟩) ∈ lw_g := tc_s (List.mem_of_getElem? (i := 40) rfl) rfl
theorem ts_41 : (Cond.selects (⟨"LeastRueModel", "firstCheapest", "(I)I"⟩ : MethodName).cls ⟨"LeastRueModel", "firstCheapest", "(I)I"⟩ ⟨"LeastRueModel", "firstCheapest", "(I)I"⟩) ∈ lw_g := tc_s (List.mem_of_getElem? (i := 41) rfl) rfl
theorem ts_42 : (Cond.selects (⟨"LeastRueModel", "rueAt", "(I)I"⟩ : MethodName).cls ⟨"LeastRueModel", "rueAt", "(I)I"⟩ ⟨"LeastRueModel", "rueAt", "(I)I"⟩) ∈ lw_g := tc_s (List.mem_of_getElem? (i := 42) rfl) rfl
theorem ts_43 : (Cond.selects (⟨"LeastRueModel", "doubled", "(I)I"⟩ : MethodName).cls ⟨"LeastRueModel", "doubled", "(I)I"⟩ ⟨"LeastRueModel", "doubled", "(I)I"⟩) ∈ lw_g := tc_s (List.mem_of_getElem? (i := 43) rfl) rfl
theorem ts_44 : (Cond.selects (⟨"LeastRueModel", "least", "(IZI)I"⟩ : MethodName).cls ⟨"LeastRueModel", "least", "(IZI)I"⟩ ⟨"LeastRueModel", "least", "(IZI)I"⟩) ∈ lw_g := tc_s (List.mem_of_getElem? (i := 44) rfl) rfl
theorem ts_45 : (Cond.selects (⟨"LeastRueModel", "dearestAt", "(II)I"⟩ : MethodName).cls ⟨"LeastRueModel", "dearestAt", "(II)I"⟩ ⟨"LeastRueModel", "dearestAt", "(II)I"⟩) ∈ lw_g := tc_s (List.mem_of_getElem? (i := 45) rfl) rfl
theorem ts_46 : (Cond.selects (⟨"LeastRueModel", "isThere", "(I)Z"⟩ : MethodName).cls ⟨"LeastRueModel", "isThere", "(I)Z"⟩ ⟨"LeastRueModel", "isThere", "(I)Z"⟩) ∈ lw_g := tc_s (List.mem_of_getElem? (i := 46) rfl) rfl
theorem ts_47 : (Cond.selects (⟨"LeastRueModel", "sumIn", "(II)I"⟩ : MethodName).cls ⟨"LeastRueModel", "sumIn", "(II)I"⟩ ⟨"LeastRueModel", "sumIn", "(II)I"⟩) ∈ lw_g := tc_s (List.mem_of_getElem? (i := 47) rfl) rfl
theorem ts_48 : (Cond.selects (⟨"LeastRueModel", "firstIn", "(I)I"⟩ : MethodName).cls ⟨"LeastRueModel", "firstIn", "(I)I"⟩ ⟨"LeastRueModel", "firstIn", "(I)I"⟩) ∈ lw_g := tc_s (List.mem_of_getElem? (i := 48) rfl) rfl
theorem ts_49 : (Cond.selects (⟨"LeastRueModel", "rueIn", "(II)I"⟩ : MethodName).cls ⟨"LeastRueModel", "rueIn", "(II)I"⟩ ⟨"LeastRueModel", "rueIn", "(II)I"⟩) ∈ lw_g := tc_s (List.mem_of_getElem? (i := 49) rfl) rfl
theorem ts_50 : (Cond.selects (⟨"LeastRueModel", "isFront", "(III)Z"⟩ : MethodName).cls ⟨"LeastRueModel", "isFront", "(III)Z"⟩ ⟨"LeastRueModel", "isFront", "(III)Z"⟩) ∈ lw_g := tc_s (List.mem_of_getElem? (i := 50) rfl) rfl
theorem ts_51 : (Cond.selects (⟨"LeastRueModel", "takesLess", "(JJ)V"⟩ : MethodName).cls ⟨"LeastRueModel", "takesLess", "(JJ)V"⟩ ⟨"LeastRueModel", "takesLess", "(JJ)V"⟩) ∈ lw_g := tc_s (List.mem_of_getElem? (i := 51) rfl) rfl
theorem ts_52 : (Cond.selects (⟨"LeastRueModel", "twoOf", "(I)I"⟩ : MethodName).cls ⟨"LeastRueModel", "twoOf", "(I)I"⟩ ⟨"LeastRueModel", "twoOf", "(I)I"⟩) ∈ lw_g := tc_s (List.mem_of_getElem? (i := 52) rfl) rfl
theorem ts_53 : (Cond.selects (⟨"LeastRueModel", "keeps", "(I[II)V"⟩ : MethodName).cls ⟨"LeastRueModel", "keeps", "(I[II)V"⟩ ⟨"LeastRueModel", "keeps", "(I[II)V"⟩) ∈ lw_g := tc_s (List.mem_of_getElem? (i := 53) rfl) rfl
theorem ts_54 : (Cond.selects (⟨"LeastRueModel", "brings", "(I[II)V"⟩ : MethodName).cls ⟨"LeastRueModel", "brings", "(I[II)V"⟩ ⟨"LeastRueModel", "brings", "(I[II)V"⟩) ∈ lw_g := tc_s (List.mem_of_getElem? (i := 54) rfl) rfl
theorem tw_0 : (Jvm.Cond.initialized "LeastRueLaw") ∈ lw_g := tc_1 (List.mem_of_getElem? (i := 0) rfl) rfl
theorem tw_1 : (Jvm.Cond.initialized "LeastRue") ∈ lw_g := tc_1 (List.mem_of_getElem? (i := 1) rfl) rfl
theorem tw_2 : (Jvm.Cond.initialized "LeastRue$Bench") ∈ lw_g := tc_1 (List.mem_of_getElem? (i := 2) rfl) rfl
theorem tw_3 : (Jvm.Cond.initialized "LeastRue$Choices") ∈ lw_g := tc_1 (List.mem_of_getElem? (i := 3) rfl) rfl
theorem tw_4 : (Jvm.Cond.initialized "java/lang/Integer") ∈ lw_g := tc_1 (List.mem_of_getElem? (i := 4) rfl) rfl
theorem tw_5 : (Jvm.Cond.initialized "LeastRue$Sheet") ∈ lw_g := tc_1 (List.mem_of_getElem? (i := 5) rfl) rfl
theorem tw_6 : (Jvm.Cond.initialized "LeastRue$ByEnds") ∈ lw_g := tc_1 (List.mem_of_getElem? (i := 6) rfl) rfl
theorem tw_7 : (Jvm.Cond.initialized "LeastRue$Sums") ∈ lw_g := tc_1 (List.mem_of_getElem? (i := 7) rfl) rfl
theorem tw_8 : (Jvm.Cond.initialized "LeastRue$ByWorlds") ∈ lw_g := tc_1 (List.mem_of_getElem? (i := 8) rfl) rfl
theorem tw_9 : (Jvm.Cond.initialized "LeastRue$TwoWorlds") ∈ lw_g := tc_1 (List.mem_of_getElem? (i := 9) rfl) rfl
theorem tw_10 : (Jvm.Cond.initialized "LeastRue$TwoSteps") ∈ lw_g := tc_1 (List.mem_of_getElem? (i := 10) rfl) rfl
theorem tw_11 : (Jvm.Cond.initialized "LeastRueModel") ∈ lw_g := tc_1 (List.mem_of_getElem? (i := 11) rfl) rfl
theorem tw_12 : (Jvm.Cond.initialized "java/util/Arrays") ∈ lw_g := tc_1 (List.mem_of_getElem? (i := 12) rfl) rfl
theorem tw_13 : (Jvm.Cond.initialized "java/lang/Math") ∈ lw_g := tc_1 (List.mem_of_getElem? (i := 13) rfl) rfl
theorem tw_14 : (Jvm.Cond.initialized "java/lang/System") ∈ lw_g := tc_1 (List.mem_of_getElem? (i := 14) rfl) rfl
theorem tw_15 : (Jvm.Cond.classLink "LeastRueLaw" (7 : Nat) "LeastRue") ∈ lw_g := tc_1 (List.mem_of_getElem? (i := 15) rfl) rfl
theorem tw_16 : (Jvm.Cond.instantiable "LeastRue" (10 : Nat)) ∈ lw_g := tc_1 (List.mem_of_getElem? (i := 16) rfl) rfl
theorem tw_17 : (Jvm.Cond.methodLink "LeastRueLaw" (9 : Nat) ({ cls := "LeastRue", name := "<init>", desc := "()V" } : Jvm.MethodName)) ∈ lw_g := tc_1 (List.mem_of_getElem? (i := 17) rfl) rfl
theorem tw_18 : (Jvm.Cond.instanceMethod ({ cls := "LeastRue", name := "<init>", desc := "()V" } : Jvm.MethodName)) ∈ lw_g := tc_1 (List.mem_of_getElem? (i := 18) rfl) rfl
theorem tw_19 : (Jvm.Cond.code ({ cls := "LeastRue", name := "<init>", desc := "()V" } : Jvm.MethodName) prog_1_method_1_code (2 : Nat) (Option.none : Option Jvm.ClassFile.FieldType)) ∈ lw_g := tc_1 (List.mem_of_getElem? (i := 19) rfl) rfl
theorem tw_20 : (Jvm.Cond.methodLink "LeastRue" (1 : Nat) ({ cls := "java/lang/Object", name := "<init>", desc := "()V" } : Jvm.MethodName)) ∈ lw_g := tc_1 (List.mem_of_getElem? (i := 20) rfl) rfl
theorem tw_21 : (Jvm.Cond.instanceMethod ({ cls := "java/lang/Object", name := "<init>", desc := "()V" } : Jvm.MethodName)) ∈ lw_g := tc_1 (List.mem_of_getElem? (i := 21) rfl) rfl
theorem tw_22 : (Jvm.Cond.code ({ cls := "java/lang/Object", name := "<init>", desc := "()V" } : Jvm.MethodName) object_method_1_code (1 : Nat) (Option.none : Option Jvm.ClassFile.FieldType)) ∈ lw_g := tc_1 (List.mem_of_getElem? (i := 22) rfl) rfl
theorem tw_23 : (Jvm.Cond.classLink "LeastRue" (7 : Nat) "LeastRue$Bench") ∈ lw_g := tc_1 (List.mem_of_getElem? (i := 23) rfl) rfl
theorem tw_24 : (Jvm.Cond.instantiable "LeastRue$Bench" (10 : Nat)) ∈ lw_g := tc_1 (List.mem_of_getElem? (i := 24) rfl) rfl
theorem tw_25 : (Jvm.Cond.methodLinkNest "LeastRue" (9 : Nat) ({ cls := "LeastRue$Bench", name := "<init>", desc := "()V" } : Jvm.MethodName) "LeastRue") ∈ lw_tbl := tn_1 (List.mem_of_getElem? (i := 25) rfl)
theorem tw_26 : (Jvm.Cond.instanceMethod ({ cls := "LeastRue$Bench", name := "<init>", desc := "()V" } : Jvm.MethodName)) ∈ lw_g := tc_1 (List.mem_of_getElem? (i := 26) rfl) rfl
theorem tw_27 : (Jvm.Cond.code ({ cls := "LeastRue$Bench", name := "<init>", desc := "()V" } : Jvm.MethodName) prog_2_method_1_code (1 : Nat) (Option.none : Option Jvm.ClassFile.FieldType)) ∈ lw_g := tc_1 (List.mem_of_getElem? (i := 27) rfl) rfl
theorem tw_28 : (Jvm.Cond.methodLink "LeastRue$Bench" (3 : Nat) ({ cls := "java/lang/Object", name := "<init>", desc := "()V" } : Jvm.MethodName)) ∈ lw_g := tc_1 (List.mem_of_getElem? (i := 28) rfl) rfl
theorem tw_29 : (Jvm.Cond.classLink "LeastRue$Bench" (27 : Nat) "[[I") ∈ lw_g := tc_1 (List.mem_of_getElem? (i := 29) rfl) rfl
theorem tw_30 : (Jvm.Cond.arrayOver (Jvm.ClassFile.FieldType.array Jvm.ClassFile.FieldType.int)) ∈ lw_tbl := tn_1 (List.mem_of_getElem? (i := 30) rfl)
theorem tw_31 : (Jvm.Cond.fieldLink "LeastRue$Bench" (32 : Nat) "LeastRue$Bench" "things" "I") ∈ lw_g := tc_1 (List.mem_of_getElem? (i := 31) rfl) rfl
theorem tw_32 : (Jvm.Cond.fieldLink "LeastRue" (80 : Nat) "LeastRue$Bench" "things" "I") ∈ lw_g := tc_1 (List.mem_of_getElem? (i := 32) rfl) rfl
theorem tw_33 : (Jvm.Cond.fieldLink "LeastRue$Choices" (26 : Nat) "LeastRue$Bench" "things" "I") ∈ lw_g := tc_1 (List.mem_of_getElem? (i := 33) rfl) rfl
theorem tw_34 : (Jvm.Cond.fieldLink "LeastRue$TwoSteps" (62 : Nat) "LeastRue$Bench" "things" "I") ∈ lw_g := tc_1 (List.mem_of_getElem? (i := 34) rfl) rfl
theorem tw_35 : (Jvm.Cond.fieldLink "LeastRue$ByEnds" (118 : Nat) "LeastRue$Bench" "things" "I") ∈ lw_g := tc_1 (List.mem_of_getElem? (i := 35) rfl) rfl
theorem tw_36 : (Jvm.Cond.fieldLink "LeastRue$Bench" (36 : Nat) "LeastRue$Bench" "kind" "I") ∈ lw_g := tc_1 (List.mem_of_getElem? (i := 36) rfl) rfl
theorem tw_37 : (Jvm.Cond.fieldLink "LeastRue" (123 : Nat) "LeastRue$Bench" "kind" "I") ∈ lw_g := tc_1 (List.mem_of_getElem? (i := 37) rfl) rfl
theorem tw_38 : (Jvm.Cond.fieldLink "LeastRue$Bench" (39 : Nat) "LeastRue$Bench" "k" "I") ∈ lw_g := tc_1 (List.mem_of_getElem? (i := 38) rfl) rfl
theorem tw_39 : (Jvm.Cond.fieldLink "LeastRue" (126 : Nat) "LeastRue$Bench" "k" "I") ∈ lw_g := tc_1 (List.mem_of_getElem? (i := 39) rfl) rfl
theorem tw_40 : (Jvm.Cond.fieldLink "LeastRue$Bench" (42 : Nat) "LeastRue$Bench" "there" "I") ∈ lw_g := tc_1 (List.mem_of_getElem? (i := 40) rfl) rfl
theorem tw_41 : (Jvm.Cond.fieldLink "LeastRue" (161 : Nat) "LeastRue$Bench" "there" "I") ∈ lw_g := tc_1 (List.mem_of_getElem? (i := 41) rfl) rfl
theorem tw_42 : (Jvm.Cond.fieldLink "LeastRue$Bench" (9 : Nat) "LeastRue$Bench" "low" "[I") ∈ lw_g := tc_1 (List.mem_of_getElem? (i := 42) rfl) rfl
theorem tw_43 : (Jvm.Cond.fieldLink "LeastRue" (95 : Nat) "LeastRue$Bench" "low" "[I") ∈ lw_g := tc_1 (List.mem_of_getElem? (i := 43) rfl) rfl
theorem tw_44 : (Jvm.Cond.fieldLink "LeastRue$ByEnds" (103 : Nat) "LeastRue$Bench" "low" "[I") ∈ lw_g := tc_1 (List.mem_of_getElem? (i := 44) rfl) rfl
theorem tw_45 : (Jvm.Cond.fieldLink "LeastRue$Bench" (15 : Nat) "LeastRue$Bench" "high" "[I") ∈ lw_g := tc_1 (List.mem_of_getElem? (i := 45) rfl) rfl
theorem tw_46 : (Jvm.Cond.fieldLink "LeastRue" (99 : Nat) "LeastRue$Bench" "high" "[I") ∈ lw_g := tc_1 (List.mem_of_getElem? (i := 46) rfl) rfl
theorem tw_47 : (Jvm.Cond.fieldLink "LeastRue$ByEnds" (98 : Nat) "LeastRue$Bench" "high" "[I") ∈ lw_g := tc_1 (List.mem_of_getElem? (i := 47) rfl) rfl
theorem tw_48 : (Jvm.Cond.fieldLink "LeastRue$Bench" (18 : Nat) "LeastRue$Bench" "one" "[I") ∈ lw_g := tc_1 (List.mem_of_getElem? (i := 48) rfl) rfl
theorem tw_49 : (Jvm.Cond.fieldLink "LeastRue" (105 : Nat) "LeastRue$Bench" "one" "[I") ∈ lw_g := tc_1 (List.mem_of_getElem? (i := 49) rfl) rfl
theorem tw_50 : (Jvm.Cond.fieldLink "LeastRue$Bench" (21 : Nat) "LeastRue$Bench" "other" "[I") ∈ lw_g := tc_1 (List.mem_of_getElem? (i := 50) rfl) rfl
theorem tw_51 : (Jvm.Cond.fieldLink "LeastRue" (108 : Nat) "LeastRue$Bench" "other" "[I") ∈ lw_g := tc_1 (List.mem_of_getElem? (i := 51) rfl) rfl
theorem tw_52 : (Jvm.Cond.fieldLink "LeastRue$Bench" (24 : Nat) "LeastRue$Bench" "price" "[I") ∈ lw_g := tc_1 (List.mem_of_getElem? (i := 52) rfl) rfl
theorem tw_53 : (Jvm.Cond.fieldLink "LeastRue$TwoSteps" (51 : Nat) "LeastRue$Bench" "price" "[I") ∈ lw_g := tc_1 (List.mem_of_getElem? (i := 53) rfl) rfl
theorem tw_54 : (Jvm.Cond.fieldLink "LeastRue" (114 : Nat) "LeastRue$Bench" "price" "[I") ∈ lw_g := tc_1 (List.mem_of_getElem? (i := 54) rfl) rfl
theorem tw_55 : (Jvm.Cond.fieldLink "LeastRue$Bench" (29 : Nat) "LeastRue$Bench" "costs" "[[I") ∈ lw_g := tc_1 (List.mem_of_getElem? (i := 55) rfl) rfl
theorem tw_56 : (Jvm.Cond.fieldLink "LeastRue$ByWorlds" (33 : Nat) "LeastRue$Bench" "costs" "[[I") ∈ lw_g := tc_1 (List.mem_of_getElem? (i := 56) rfl) rfl
theorem tw_57 : (Jvm.Cond.fieldLink "LeastRue$TwoSteps" (66 : Nat) "LeastRue$Bench" "costs" "[[I") ∈ lw_g := tc_1 (List.mem_of_getElem? (i := 57) rfl) rfl
theorem tw_58 : (Jvm.Cond.fieldLink "LeastRue$TwoWorlds" (69 : Nat) "LeastRue$Bench" "costs" "[[I") ∈ lw_g := tc_1 (List.mem_of_getElem? (i := 58) rfl) rfl
theorem tw_59 : (Jvm.Cond.fieldLink "LeastRue" (153 : Nat) "LeastRue$Bench" "costs" "[[I") ∈ lw_g := tc_1 (List.mem_of_getElem? (i := 59) rfl) rfl
theorem tw_81 : (Jvm.Cond.arrayClass Jvm.ClassFile.FieldType.int) ∈ lw_g := tc_1 (List.mem_of_getElem? (i := 81) rfl) rfl
theorem tw_82 : (Jvm.Cond.classLink "LeastRue" (16 : Nat) "LeastRue$Choices") ∈ lw_g := tc_1 (List.mem_of_getElem? (i := 82) rfl) rfl
theorem tw_83 : (Jvm.Cond.instantiable "LeastRue$Choices" (3 : Nat)) ∈ lw_g := tc_1 (List.mem_of_getElem? (i := 83) rfl) rfl
theorem tw_84 : (Jvm.Cond.methodLinkNest "LeastRue" (18 : Nat) ({ cls := "LeastRue$Choices", name := "<init>", desc := "()V" } : Jvm.MethodName) "LeastRue") ∈ lw_tbl := tn_1 (List.mem_of_getElem? (i := 84) rfl)
theorem tw_85 : (Jvm.Cond.instanceMethod ({ cls := "LeastRue$Choices", name := "<init>", desc := "()V" } : Jvm.MethodName)) ∈ lw_g := tc_1 (List.mem_of_getElem? (i := 85) rfl) rfl
theorem tw_86 : (Jvm.Cond.code ({ cls := "LeastRue$Choices", name := "<init>", desc := "()V" } : Jvm.MethodName) prog_5_method_1_code (1 : Nat) (Option.none : Option Jvm.ClassFile.FieldType)) ∈ lw_g := tc_1 (List.mem_of_getElem? (i := 86) rfl) rfl
theorem tw_87 : (Jvm.Cond.methodLink "LeastRue$Choices" (3 : Nat) ({ cls := "java/lang/Object", name := "<init>", desc := "()V" } : Jvm.MethodName)) ∈ lw_g := tc_1 (List.mem_of_getElem? (i := 87) rfl) rfl
theorem tw_88 : (Jvm.Cond.fieldLink "LeastRue$Choices" (18 : Nat) "LeastRue$Choices" "size" "I") ∈ lw_g := tc_1 (List.mem_of_getElem? (i := 88) rfl) rfl
theorem tw_89 : (Jvm.Cond.fieldLink "LeastRue$ByWorlds" (42 : Nat) "LeastRue$Choices" "size" "I") ∈ lw_g := tc_1 (List.mem_of_getElem? (i := 89) rfl) rfl
theorem tw_90 : (Jvm.Cond.fieldLink "LeastRue$ByEnds" (64 : Nat) "LeastRue$Choices" "size" "I") ∈ lw_g := tc_1 (List.mem_of_getElem? (i := 90) rfl) rfl
theorem tw_91 : (Jvm.Cond.fieldLink "LeastRue$TwoSteps" (78 : Nat) "LeastRue$Choices" "size" "I") ∈ lw_g := tc_1 (List.mem_of_getElem? (i := 91) rfl) rfl
theorem tw_92 : (Jvm.Cond.fieldLink "LeastRue$TwoWorlds" (55 : Nat) "LeastRue$Choices" "size" "I") ∈ lw_g := tc_1 (List.mem_of_getElem? (i := 92) rfl) rfl
theorem tw_93 : (Jvm.Cond.fieldLink "LeastRue" (129 : Nat) "LeastRue$Choices" "size" "I") ∈ lw_g := tc_1 (List.mem_of_getElem? (i := 93) rfl) rfl
theorem tw_94 : (Jvm.Cond.fieldLink "LeastRue$Choices" (9 : Nat) "LeastRue$Choices" "sets" "[I") ∈ lw_g := tc_1 (List.mem_of_getElem? (i := 94) rfl) rfl
theorem tw_95 : (Jvm.Cond.fieldLink "LeastRue$ByWorlds" (48 : Nat) "LeastRue$Choices" "sets" "[I") ∈ lw_g := tc_1 (List.mem_of_getElem? (i := 95) rfl) rfl
theorem tw_96 : (Jvm.Cond.fieldLink "LeastRue$ByEnds" (55 : Nat) "LeastRue$Choices" "sets" "[I") ∈ lw_g := tc_1 (List.mem_of_getElem? (i := 96) rfl) rfl
theorem tw_97 : (Jvm.Cond.fieldLink "LeastRue$TwoSteps" (83 : Nat) "LeastRue$Choices" "sets" "[I") ∈ lw_g := tc_1 (List.mem_of_getElem? (i := 97) rfl) rfl
theorem tw_98 : (Jvm.Cond.fieldLink "LeastRue$TwoWorlds" (78 : Nat) "LeastRue$Choices" "sets" "[I") ∈ lw_g := tc_1 (List.mem_of_getElem? (i := 98) rfl) rfl
theorem tw_99 : (Jvm.Cond.fieldLink "LeastRue" (179 : Nat) "LeastRue$Choices" "sets" "[I") ∈ lw_g := tc_1 (List.mem_of_getElem? (i := 99) rfl) rfl
theorem tw_100 : (Jvm.Cond.fieldLink "LeastRue$Choices" (15 : Nat) "LeastRue$Choices" "spare" "[I") ∈ lw_g := tc_1 (List.mem_of_getElem? (i := 100) rfl) rfl
theorem tw_108 : (Jvm.Cond.methodLink "LeastRue" (23 : Nat) ({ cls := "LeastRue$Choices", name := "relist", desc := "(LLeastRue$Bench;)Z" } : Jvm.MethodName)) ∈ lw_g := tc_1 (List.mem_of_getElem? (i := 108) rfl) rfl
theorem tw_109 : (Jvm.Cond.instanceMethod ({ cls := "LeastRue$Choices", name := "relist", desc := "(LLeastRue$Bench;)Z" } : Jvm.MethodName)) ∈ lw_g := tc_1 (List.mem_of_getElem? (i := 109) rfl) rfl
theorem tw_110 : (Jvm.Cond.selects "LeastRue$Choices" ({ cls := "LeastRue$Choices", name := "relist", desc := "(LLeastRue$Bench;)Z" } : Jvm.MethodName) ({ cls := "LeastRue$Choices", name := "relist", desc := "(LLeastRue$Bench;)Z" } : Jvm.MethodName)) ∈ lw_g := tc_1 (List.mem_of_getElem? (i := 110) rfl) rfl
theorem tw_111 : (Jvm.Cond.code ({ cls := "LeastRue$Choices", name := "relist", desc := "(LLeastRue$Bench;)Z" } : Jvm.MethodName) prog_5_method_3_code (5 : Nat) (Option.some Jvm.ClassFile.FieldType.boolean)) ∈ lw_g := tc_1 (List.mem_of_getElem? (i := 111) rfl) rfl
theorem tw_112 : (Jvm.Cond.methodLink "LeastRue$Choices" (31 : Nat) ({ cls := "LeastRue$Bench", name := "allows", desc := "(I)Z" } : Jvm.MethodName)) ∈ lw_g := tc_1 (List.mem_of_getElem? (i := 112) rfl) rfl
theorem tw_113 : (Jvm.Cond.instanceMethod ({ cls := "LeastRue$Bench", name := "allows", desc := "(I)Z" } : Jvm.MethodName)) ∈ lw_g := tc_1 (List.mem_of_getElem? (i := 113) rfl) rfl
theorem tw_114 : (Jvm.Cond.selects "LeastRue$Bench" ({ cls := "LeastRue$Bench", name := "allows", desc := "(I)Z" } : Jvm.MethodName) ({ cls := "LeastRue$Bench", name := "allows", desc := "(I)Z" } : Jvm.MethodName)) ∈ lw_g := tc_1 (List.mem_of_getElem? (i := 114) rfl) rfl
theorem tw_115 : (Jvm.Cond.code ({ cls := "LeastRue$Bench", name := "allows", desc := "(I)Z" } : Jvm.MethodName) prog_2_method_6_code (2 : Nat) (Option.some Jvm.ClassFile.FieldType.boolean)) ∈ lw_g := tc_1 (List.mem_of_getElem? (i := 115) rfl) rfl
theorem tw_116 : (Jvm.Cond.methodLink "LeastRue$Bench" (55 : Nat) ({ cls := "java/lang/Integer", name := "bitCount", desc := "(I)I" } : Jvm.MethodName)) ∈ lw_g := tc_1 (List.mem_of_getElem? (i := 116) rfl) rfl
theorem tw_117 : (Jvm.Cond.static ({ cls := "java/lang/Integer", name := "bitCount", desc := "(I)I" } : Jvm.MethodName)) ∈ lw_g := tc_1 (List.mem_of_getElem? (i := 117) rfl) rfl
theorem tw_118 : (Jvm.Cond.code ({ cls := "java/lang/Integer", name := "bitCount", desc := "(I)I" } : Jvm.MethodName) prog_12_method_49_code (1 : Nat) (Option.some Jvm.ClassFile.FieldType.int)) ∈ lw_g := tc_1 (List.mem_of_getElem? (i := 118) rfl) rfl
theorem tw_119 : (Jvm.Cond.constant "java/lang/Integer" (265 : Nat) (1431655765 : Int32)) ∈ lw_g := tc_1 (List.mem_of_getElem? (i := 119) rfl) rfl
theorem tw_120 : (Jvm.Cond.constant "java/lang/Integer" (266 : Nat) (858993459 : Int32)) ∈ lw_g := tc_1 (List.mem_of_getElem? (i := 120) rfl) rfl
theorem tw_121 : (Jvm.Cond.constant "java/lang/Integer" (267 : Nat) (252645135 : Int32)) ∈ lw_g := tc_1 (List.mem_of_getElem? (i := 121) rfl) rfl
theorem tw_122 : (Jvm.Cond.methodLink "LeastRue$Bench" (61 : Nat) ({ cls := "LeastRue$Bench", name := "isWay", desc := "(I)Z" } : Jvm.MethodName)) ∈ lw_g := tc_1 (List.mem_of_getElem? (i := 122) rfl) rfl
theorem tw_124 : (Jvm.Cond.instanceMethod ({ cls := "LeastRue$Bench", name := "isWay", desc := "(I)Z" } : Jvm.MethodName)) ∈ lw_g := tc_1 (List.mem_of_getElem? (i := 124) rfl) rfl
theorem tw_125 : (Jvm.Cond.code ({ cls := "LeastRue$Bench", name := "isWay", desc := "(I)Z" } : Jvm.MethodName) prog_2_method_7_code (7 : Nat) (Option.some Jvm.ClassFile.FieldType.boolean)) ∈ lw_g := tc_1 (List.mem_of_getElem? (i := 125) rfl) rfl
theorem tw_126 : (Jvm.Cond.methodLink "LeastRue$Bench" (71 : Nat) ({ cls := "LeastRue$Bench", name := "roadFrom", desc := "(II)I" } : Jvm.MethodName)) ∈ lw_g := tc_1 (List.mem_of_getElem? (i := 126) rfl) rfl
theorem tw_128 : (Jvm.Cond.instanceMethod ({ cls := "LeastRue$Bench", name := "roadFrom", desc := "(II)I" } : Jvm.MethodName)) ∈ lw_g := tc_1 (List.mem_of_getElem? (i := 128) rfl) rfl
theorem tw_129 : (Jvm.Cond.code ({ cls := "LeastRue$Bench", name := "roadFrom", desc := "(II)I" } : Jvm.MethodName) prog_2_method_8_code (4 : Nat) (Option.some Jvm.ClassFile.FieldType.int)) ∈ lw_g := tc_1 (List.mem_of_getElem? (i := 129) rfl) rfl
theorem tw_130 : (Jvm.Cond.methodLink "LeastRue$Bench" (65 : Nat) ({ cls := "LeastRue$Bench", name := "holdsTogether", desc := "(I)Z" } : Jvm.MethodName)) ∈ lw_g := tc_1 (List.mem_of_getElem? (i := 130) rfl) rfl
theorem tw_132 : (Jvm.Cond.instanceMethod ({ cls := "LeastRue$Bench", name := "holdsTogether", desc := "(I)Z" } : Jvm.MethodName)) ∈ lw_g := tc_1 (List.mem_of_getElem? (i := 132) rfl) rfl
theorem tw_133 : (Jvm.Cond.code ({ cls := "LeastRue$Bench", name := "holdsTogether", desc := "(I)Z" } : Jvm.MethodName) prog_2_method_9_code (6 : Nat) (Option.some Jvm.ClassFile.FieldType.boolean)) ∈ lw_g := tc_1 (List.mem_of_getElem? (i := 133) rfl) rfl
theorem tw_134 : (Jvm.Cond.methodLink "LeastRue$Bench" (68 : Nat) ({ cls := "LeastRue$Bench", name := "meetsAllPosts", desc := "(I)Z" } : Jvm.MethodName)) ∈ lw_g := tc_1 (List.mem_of_getElem? (i := 134) rfl) rfl
theorem tw_136 : (Jvm.Cond.instanceMethod ({ cls := "LeastRue$Bench", name := "meetsAllPosts", desc := "(I)Z" } : Jvm.MethodName)) ∈ lw_g := tc_1 (List.mem_of_getElem? (i := 136) rfl) rfl
theorem tw_137 : (Jvm.Cond.code ({ cls := "LeastRue$Bench", name := "meetsAllPosts", desc := "(I)Z" } : Jvm.MethodName) prog_2_method_10_code (5 : Nat) (Option.some Jvm.ClassFile.FieldType.boolean)) ∈ lw_g := tc_1 (List.mem_of_getElem? (i := 137) rfl) rfl
theorem tw_138 : (Jvm.Cond.classLink "LeastRue" (27 : Nat) "LeastRue$Sheet") ∈ lw_g := tc_1 (List.mem_of_getElem? (i := 138) rfl) rfl
theorem tw_139 : (Jvm.Cond.arrayOver (Jvm.ClassFile.FieldType.object "LeastRue$Sheet")) ∈ lw_tbl := tn_1 (List.mem_of_getElem? (i := 139) rfl)
theorem tw_140 : (Jvm.Cond.instantiable "LeastRue$Sheet" (3 : Nat)) ∈ lw_g := tc_1 (List.mem_of_getElem? (i := 140) rfl) rfl
theorem tw_141 : (Jvm.Cond.methodLinkNest "LeastRue" (33 : Nat) ({ cls := "LeastRue$Sheet", name := "<init>", desc := "()V" } : Jvm.MethodName) "LeastRue") ∈ lw_tbl := tn_1 (List.mem_of_getElem? (i := 141) rfl)
theorem tw_142 : (Jvm.Cond.instanceMethod ({ cls := "LeastRue$Sheet", name := "<init>", desc := "()V" } : Jvm.MethodName)) ∈ lw_g := tc_1 (List.mem_of_getElem? (i := 142) rfl) rfl
theorem tw_143 : (Jvm.Cond.code ({ cls := "LeastRue$Sheet", name := "<init>", desc := "()V" } : Jvm.MethodName) prog_6_method_1_code (1 : Nat) (Option.none : Option Jvm.ClassFile.FieldType)) ∈ lw_g := tc_1 (List.mem_of_getElem? (i := 143) rfl) rfl
theorem tw_144 : (Jvm.Cond.methodLink "LeastRue$Sheet" (3 : Nat) ({ cls := "java/lang/Object", name := "<init>", desc := "()V" } : Jvm.MethodName)) ∈ lw_g := tc_1 (List.mem_of_getElem? (i := 144) rfl) rfl
theorem tw_145 : (Jvm.Cond.fieldLink "LeastRue$Sheet" (9 : Nat) "LeastRue$Sheet" "row" "[I") ∈ lw_g := tc_1 (List.mem_of_getElem? (i := 145) rfl) rfl
theorem tw_146 : (Jvm.Cond.fieldLink "LeastRue$Sheet" (19 : Nat) "LeastRue$Sheet" "sort" "I") ∈ lw_g := tc_1 (List.mem_of_getElem? (i := 146) rfl) rfl
theorem tw_147 : (Jvm.Cond.fieldLink "LeastRue$Sheet" (15 : Nat) "LeastRue$Sheet" "length" "I") ∈ lw_g := tc_1 (List.mem_of_getElem? (i := 147) rfl) rfl
theorem tw_155 : (Jvm.Cond.arrayOver (Jvm.ClassFile.FieldType.object "LeastRue$Bench")) ∈ lw_tbl := tn_1 (List.mem_of_getElem? (i := 155) rfl)
theorem tw_156 : (Jvm.Cond.classLink "LeastRue" (42 : Nat) "LeastRue$ByEnds") ∈ lw_g := tc_1 (List.mem_of_getElem? (i := 156) rfl) rfl
theorem tw_157 : (Jvm.Cond.instantiable "LeastRue$ByEnds" (14 : Nat)) ∈ lw_g := tc_1 (List.mem_of_getElem? (i := 157) rfl) rfl
theorem tw_158 : (Jvm.Cond.methodLink "LeastRue" (44 : Nat) ({ cls := "LeastRue$ByEnds", name := "<init>", desc := "(LLeastRue$Bench;LLeastRue$Choices;)V" } : Jvm.MethodName)) ∈ lw_g := tc_1 (List.mem_of_getElem? (i := 158) rfl) rfl
theorem tw_159 : (Jvm.Cond.instanceMethod ({ cls := "LeastRue$ByEnds", name := "<init>", desc := "(LLeastRue$Bench;LLeastRue$Choices;)V" } : Jvm.MethodName)) ∈ lw_g := tc_1 (List.mem_of_getElem? (i := 159) rfl) rfl
theorem tw_160 : (Jvm.Cond.code ({ cls := "LeastRue$ByEnds", name := "<init>", desc := "(LLeastRue$Bench;LLeastRue$Choices;)V" } : Jvm.MethodName) prog_3_method_1_code (3 : Nat) (Option.none : Option Jvm.ClassFile.FieldType)) ∈ lw_g := tc_1 (List.mem_of_getElem? (i := 160) rfl) rfl
theorem tw_161 : (Jvm.Cond.methodLink "LeastRue$ByEnds" (3 : Nat) ({ cls := "java/lang/Object", name := "<init>", desc := "()V" } : Jvm.MethodName)) ∈ lw_g := tc_1 (List.mem_of_getElem? (i := 161) rfl) rfl
theorem tw_162 : (Jvm.Cond.classLink "LeastRue$ByEnds" (15 : Nat) "LeastRue$Sums") ∈ lw_g := tc_1 (List.mem_of_getElem? (i := 162) rfl) rfl
theorem tw_163 : (Jvm.Cond.instantiable "LeastRue$Sums" (2 : Nat)) ∈ lw_g := tc_1 (List.mem_of_getElem? (i := 163) rfl) rfl
theorem tw_164 : (Jvm.Cond.methodLinkNest "LeastRue$ByEnds" (17 : Nat) ({ cls := "LeastRue$Sums", name := "<init>", desc := "()V" } : Jvm.MethodName) "LeastRue") ∈ lw_tbl := tn_1 (List.mem_of_getElem? (i := 164) rfl)
theorem tw_165 : (Jvm.Cond.instanceMethod ({ cls := "LeastRue$Sums", name := "<init>", desc := "()V" } : Jvm.MethodName)) ∈ lw_g := tc_1 (List.mem_of_getElem? (i := 165) rfl) rfl
theorem tw_166 : (Jvm.Cond.code ({ cls := "LeastRue$Sums", name := "<init>", desc := "()V" } : Jvm.MethodName) prog_7_method_1_code (1 : Nat) (Option.none : Option Jvm.ClassFile.FieldType)) ∈ lw_g := tc_1 (List.mem_of_getElem? (i := 166) rfl) rfl
theorem tw_167 : (Jvm.Cond.methodLink "LeastRue$Sums" (1 : Nat) ({ cls := "java/lang/Object", name := "<init>", desc := "()V" } : Jvm.MethodName)) ∈ lw_g := tc_1 (List.mem_of_getElem? (i := 167) rfl) rfl
theorem tw_168 : (Jvm.Cond.fieldLink "LeastRue$Sums" (9 : Nat) "LeastRue$Sums" "lower" "[I") ∈ lw_g := tc_1 (List.mem_of_getElem? (i := 168) rfl) rfl
theorem tw_169 : (Jvm.Cond.fieldLink "LeastRue$Sums" (13 : Nat) "LeastRue$Sums" "upper" "[I") ∈ lw_g := tc_1 (List.mem_of_getElem? (i := 169) rfl) rfl
theorem tw_175 : (Jvm.Cond.arrayClass Jvm.ClassFile.FieldType.boolean) ∈ lw_g := tc_1 (List.mem_of_getElem? (i := 175) rfl) rfl
theorem tw_176 : (Jvm.Cond.fieldLink "LeastRue$ByEnds" (34 : Nat) "LeastRue$ByEnds" "bench" "LLeastRue$Bench;") ∈ lw_g := tc_1 (List.mem_of_getElem? (i := 176) rfl) rfl
theorem tw_177 : (Jvm.Cond.fieldLink "LeastRue$ByEnds" (38 : Nat) "LeastRue$ByEnds" "choices" "LLeastRue$Choices;") ∈ lw_g := tc_1 (List.mem_of_getElem? (i := 177) rfl) rfl
theorem tw_178 : (Jvm.Cond.fieldLink "LeastRue$ByEnds" (9 : Nat) "LeastRue$ByEnds" "gaps" "[I") ∈ lw_g := tc_1 (List.mem_of_getElem? (i := 178) rfl) rfl
theorem tw_179 : (Jvm.Cond.fieldLink "LeastRue$ByEnds" (18 : Nat) "LeastRue$ByEnds" "lows" "LLeastRue$Sums;") ∈ lw_g := tc_1 (List.mem_of_getElem? (i := 179) rfl) rfl
theorem tw_180 : (Jvm.Cond.fieldLink "LeastRue$ByEnds" (22 : Nat) "LeastRue$ByEnds" "gapSums" "LLeastRue$Sums;") ∈ lw_g := tc_1 (List.mem_of_getElem? (i := 180) rfl) rfl
theorem tw_181 : (Jvm.Cond.fieldLink "LeastRue$ByEnds" (25 : Nat) "LeastRue$ByEnds" "lowCosts" "[I") ∈ lw_g := tc_1 (List.mem_of_getElem? (i := 181) rfl) rfl
theorem tw_182 : (Jvm.Cond.fieldLink "LeastRue$ByEnds" (28 : Nat) "LeastRue$ByEnds" "rues" "[I") ∈ lw_g := tc_1 (List.mem_of_getElem? (i := 182) rfl) rfl
theorem tw_183 : (Jvm.Cond.fieldLink "LeastRue$ByEnds" (31 : Nat) "LeastRue$ByEnds" "row" "[I") ∈ lw_g := tc_1 (List.mem_of_getElem? (i := 183) rfl) rfl
theorem tw_184 : (Jvm.Cond.fieldLink "LeastRue$ByEnds" (42 : Nat) "LeastRue$ByEnds" "summed" "Z") ∈ lw_g := tc_1 (List.mem_of_getElem? (i := 184) rfl) rfl
theorem tw_185 : (Jvm.Cond.fieldLink "LeastRue$ByEnds" (46 : Nat) "LeastRue$ByEnds" "rued" "Z") ∈ lw_g := tc_1 (List.mem_of_getElem? (i := 185) rfl) rfl
theorem tw_186 : (Jvm.Cond.fieldLink "LeastRue$ByEnds" (49 : Nat) "LeastRue$ByEnds" "sorted" "Z") ∈ lw_g := tc_1 (List.mem_of_getElem? (i := 186) rfl) rfl
theorem tw_187 : (Jvm.Cond.fieldLink "LeastRue$ByEnds" (85 : Nat) "LeastRue$ByEnds" "always" "I") ∈ lw_g := tc_1 (List.mem_of_getElem? (i := 187) rfl) rfl
theorem tw_188 : (Jvm.Cond.fieldLink "LeastRue$ByEnds" (88 : Nat) "LeastRue$ByEnds" "sure" "I") ∈ lw_g := tc_1 (List.mem_of_getElem? (i := 188) rfl) rfl
theorem tw_189 : (Jvm.Cond.fieldLink "LeastRue$ByEnds" (91 : Nat) "LeastRue$ByEnds" "may" "I") ∈ lw_g := tc_1 (List.mem_of_getElem? (i := 189) rfl) rfl
theorem tw_219 : (Jvm.Cond.classLink "LeastRue" (51 : Nat) "LeastRue$ByWorlds") ∈ lw_g := tc_1 (List.mem_of_getElem? (i := 219) rfl) rfl
theorem tw_220 : (Jvm.Cond.instantiable "LeastRue$ByWorlds" (5 : Nat)) ∈ lw_g := tc_1 (List.mem_of_getElem? (i := 220) rfl) rfl
theorem tw_221 : (Jvm.Cond.methodLink "LeastRue" (53 : Nat) ({ cls := "LeastRue$ByWorlds", name := "<init>", desc := "(LLeastRue$Bench;LLeastRue$Choices;)V" } : Jvm.MethodName)) ∈ lw_g := tc_1 (List.mem_of_getElem? (i := 221) rfl) rfl
theorem tw_222 : (Jvm.Cond.instanceMethod ({ cls := "LeastRue$ByWorlds", name := "<init>", desc := "(LLeastRue$Bench;LLeastRue$Choices;)V" } : Jvm.MethodName)) ∈ lw_g := tc_1 (List.mem_of_getElem? (i := 222) rfl) rfl
theorem tw_223 : (Jvm.Cond.code ({ cls := "LeastRue$ByWorlds", name := "<init>", desc := "(LLeastRue$Bench;LLeastRue$Choices;)V" } : Jvm.MethodName) prog_4_method_1_code (3 : Nat) (Option.none : Option Jvm.ClassFile.FieldType)) ∈ lw_g := tc_1 (List.mem_of_getElem? (i := 223) rfl) rfl
theorem tw_224 : (Jvm.Cond.methodLink "LeastRue$ByWorlds" (3 : Nat) ({ cls := "java/lang/Object", name := "<init>", desc := "()V" } : Jvm.MethodName)) ∈ lw_g := tc_1 (List.mem_of_getElem? (i := 224) rfl) rfl
theorem tw_225 : (Jvm.Cond.classLink "LeastRue$ByWorlds" (9 : Nat) "LeastRue$Sums") ∈ lw_g := tc_1 (List.mem_of_getElem? (i := 225) rfl) rfl
theorem tw_226 : (Jvm.Cond.methodLinkNest "LeastRue$ByWorlds" (11 : Nat) ({ cls := "LeastRue$Sums", name := "<init>", desc := "()V" } : Jvm.MethodName) "LeastRue") ∈ lw_tbl := tn_1 (List.mem_of_getElem? (i := 226) rfl)
theorem tw_227 : (Jvm.Cond.fieldLink "LeastRue$ByWorlds" (25 : Nat) "LeastRue$ByWorlds" "bench" "LLeastRue$Bench;") ∈ lw_g := tc_1 (List.mem_of_getElem? (i := 227) rfl) rfl
theorem tw_228 : (Jvm.Cond.fieldLink "LeastRue$ByWorlds" (29 : Nat) "LeastRue$ByWorlds" "choices" "LLeastRue$Choices;") ∈ lw_g := tc_1 (List.mem_of_getElem? (i := 228) rfl) rfl
theorem tw_229 : (Jvm.Cond.fieldLink "LeastRue$ByWorlds" (12 : Nat) "LeastRue$ByWorlds" "costs" "LLeastRue$Sums;") ∈ lw_g := tc_1 (List.mem_of_getElem? (i := 229) rfl) rfl
theorem tw_230 : (Jvm.Cond.fieldLink "LeastRue$ByWorlds" (18 : Nat) "LeastRue$ByWorlds" "row" "[I") ∈ lw_g := tc_1 (List.mem_of_getElem? (i := 230) rfl) rfl
theorem tw_231 : (Jvm.Cond.fieldLink "LeastRue$ByWorlds" (22 : Nat) "LeastRue$ByWorlds" "rues" "[I") ∈ lw_g := tc_1 (List.mem_of_getElem? (i := 231) rfl) rfl
theorem tw_243 : (Jvm.Cond.classLink "LeastRue" (58 : Nat) "LeastRue$TwoWorlds") ∈ lw_g := tc_2 (List.mem_of_getElem? (i := 3) rfl) rfl
theorem tw_244 : (Jvm.Cond.instantiable "LeastRue$TwoWorlds" (7 : Nat)) ∈ lw_g := tc_2 (List.mem_of_getElem? (i := 4) rfl) rfl
theorem tw_245 : (Jvm.Cond.methodLink "LeastRue" (60 : Nat) ({ cls := "LeastRue$TwoWorlds", name := "<init>", desc := "(LLeastRue$Bench;LLeastRue$Choices;)V" } : Jvm.MethodName)) ∈ lw_g := tc_2 (List.mem_of_getElem? (i := 5) rfl) rfl
theorem tw_246 : (Jvm.Cond.instanceMethod ({ cls := "LeastRue$TwoWorlds", name := "<init>", desc := "(LLeastRue$Bench;LLeastRue$Choices;)V" } : Jvm.MethodName)) ∈ lw_g := tc_2 (List.mem_of_getElem? (i := 6) rfl) rfl
theorem tw_247 : (Jvm.Cond.code ({ cls := "LeastRue$TwoWorlds", name := "<init>", desc := "(LLeastRue$Bench;LLeastRue$Choices;)V" } : Jvm.MethodName) prog_9_method_1_code (3 : Nat) (Option.none : Option Jvm.ClassFile.FieldType)) ∈ lw_g := tc_2 (List.mem_of_getElem? (i := 7) rfl) rfl
theorem tw_248 : (Jvm.Cond.methodLink "LeastRue$TwoWorlds" (3 : Nat) ({ cls := "java/lang/Object", name := "<init>", desc := "()V" } : Jvm.MethodName)) ∈ lw_g := tc_2 (List.mem_of_getElem? (i := 8) rfl) rfl
theorem tw_249 : (Jvm.Cond.classLink "LeastRue$TwoWorlds" (9 : Nat) "LeastRue$Sums") ∈ lw_g := tc_2 (List.mem_of_getElem? (i := 9) rfl) rfl
theorem tw_250 : (Jvm.Cond.methodLinkNest "LeastRue$TwoWorlds" (11 : Nat) ({ cls := "LeastRue$Sums", name := "<init>", desc := "()V" } : Jvm.MethodName) "LeastRue") ∈ lw_tbl := tn_2 (List.mem_of_getElem? (i := 10) rfl)
theorem tw_251 : (Jvm.Cond.fieldLink "LeastRue$TwoWorlds" (25 : Nat) "LeastRue$TwoWorlds" "bench" "LLeastRue$Bench;") ∈ lw_g := tc_2 (List.mem_of_getElem? (i := 11) rfl) rfl
theorem tw_252 : (Jvm.Cond.fieldLink "LeastRue$TwoWorlds" (29 : Nat) "LeastRue$TwoWorlds" "choices" "LLeastRue$Choices;") ∈ lw_g := tc_2 (List.mem_of_getElem? (i := 12) rfl) rfl
theorem tw_253 : (Jvm.Cond.fieldLink "LeastRue$TwoWorlds" (12 : Nat) "LeastRue$TwoWorlds" "costs" "LLeastRue$Sums;") ∈ lw_g := tc_2 (List.mem_of_getElem? (i := 13) rfl) rfl
theorem tw_254 : (Jvm.Cond.fieldLink "LeastRue$TwoWorlds" (18 : Nat) "LeastRue$TwoWorlds" "inV" "[I") ∈ lw_g := tc_2 (List.mem_of_getElem? (i := 14) rfl) rfl
theorem tw_255 : (Jvm.Cond.fieldLink "LeastRue$TwoWorlds" (22 : Nat) "LeastRue$TwoWorlds" "inW" "[I") ∈ lw_g := tc_2 (List.mem_of_getElem? (i := 15) rfl) rfl
theorem tw_256 : (Jvm.Cond.fieldLink "LeastRue$TwoWorlds" (48 : Nat) "LeastRue$TwoWorlds" "upper" "J") ∈ lw_g := tc_2 (List.mem_of_getElem? (i := 16) rfl) rfl
theorem tw_257 : (Jvm.Cond.fieldLink "LeastRue" (245 : Nat) "LeastRue$TwoWorlds" "upper" "J") ∈ lw_g := tc_2 (List.mem_of_getElem? (i := 17) rfl) rfl
theorem tw_258 : (Jvm.Cond.fieldLink "LeastRue$TwoWorlds" (52 : Nat) "LeastRue$TwoWorlds" "lower" "J") ∈ lw_g := tc_2 (List.mem_of_getElem? (i := 18) rfl) rfl
theorem tw_259 : (Jvm.Cond.fieldLink "LeastRue" (249 : Nat) "LeastRue$TwoWorlds" "lower" "J") ∈ lw_g := tc_2 (List.mem_of_getElem? (i := 19) rfl) rfl
theorem tw_275 : (Jvm.Cond.classLink "LeastRue" (65 : Nat) "LeastRue$TwoSteps") ∈ lw_g := tc_2 (List.mem_of_getElem? (i := 35) rfl) rfl
theorem tw_276 : (Jvm.Cond.instantiable "LeastRue$TwoSteps" (6 : Nat)) ∈ lw_g := tc_2 (List.mem_of_getElem? (i := 36) rfl) rfl
theorem tw_277 : (Jvm.Cond.methodLink "LeastRue" (67 : Nat) ({ cls := "LeastRue$TwoSteps", name := "<init>", desc := "(LLeastRue$Bench;LLeastRue$Choices;)V" } : Jvm.MethodName)) ∈ lw_g := tc_2 (List.mem_of_getElem? (i := 37) rfl) rfl
theorem tw_278 : (Jvm.Cond.instanceMethod ({ cls := "LeastRue$TwoSteps", name := "<init>", desc := "(LLeastRue$Bench;LLeastRue$Choices;)V" } : Jvm.MethodName)) ∈ lw_g := tc_2 (List.mem_of_getElem? (i := 38) rfl) rfl
theorem tw_279 : (Jvm.Cond.code ({ cls := "LeastRue$TwoSteps", name := "<init>", desc := "(LLeastRue$Bench;LLeastRue$Choices;)V" } : Jvm.MethodName) prog_8_method_1_code (3 : Nat) (Option.none : Option Jvm.ClassFile.FieldType)) ∈ lw_g := tc_2 (List.mem_of_getElem? (i := 39) rfl) rfl
theorem tw_280 : (Jvm.Cond.methodLink "LeastRue$TwoSteps" (3 : Nat) ({ cls := "java/lang/Object", name := "<init>", desc := "()V" } : Jvm.MethodName)) ∈ lw_g := tc_2 (List.mem_of_getElem? (i := 40) rfl) rfl
theorem tw_281 : (Jvm.Cond.classLink "LeastRue$TwoSteps" (9 : Nat) "LeastRue$Sums") ∈ lw_g := tc_2 (List.mem_of_getElem? (i := 41) rfl) rfl
theorem tw_282 : (Jvm.Cond.methodLinkNest "LeastRue$TwoSteps" (11 : Nat) ({ cls := "LeastRue$Sums", name := "<init>", desc := "()V" } : Jvm.MethodName) "LeastRue") ∈ lw_tbl := tn_2 (List.mem_of_getElem? (i := 42) rfl)
theorem tw_283 : (Jvm.Cond.fieldLink "LeastRue$TwoSteps" (28 : Nat) "LeastRue$TwoSteps" "bench" "LLeastRue$Bench;") ∈ lw_g := tc_2 (List.mem_of_getElem? (i := 43) rfl) rfl
theorem tw_284 : (Jvm.Cond.fieldLink "LeastRue$TwoSteps" (32 : Nat) "LeastRue$TwoSteps" "choices" "LLeastRue$Choices;") ∈ lw_g := tc_2 (List.mem_of_getElem? (i := 44) rfl) rfl
theorem tw_285 : (Jvm.Cond.fieldLink "LeastRue$TwoSteps" (12 : Nat) "LeastRue$TwoSteps" "costs" "LLeastRue$Sums;") ∈ lw_g := tc_2 (List.mem_of_getElem? (i := 45) rfl) rfl
theorem tw_286 : (Jvm.Cond.fieldLink "LeastRue$TwoSteps" (18 : Nat) "LeastRue$TwoSteps" "prices" "LLeastRue$Sums;") ∈ lw_g := tc_2 (List.mem_of_getElem? (i := 46) rfl) rfl
theorem tw_287 : (Jvm.Cond.fieldLink "LeastRue$TwoSteps" (21 : Nat) "LeastRue$TwoSteps" "least" "[I") ∈ lw_g := tc_2 (List.mem_of_getElem? (i := 47) rfl) rfl
theorem tw_288 : (Jvm.Cond.fieldLink "LeastRue$TwoSteps" (25 : Nat) "LeastRue$TwoSteps" "dear" "[I") ∈ lw_g := tc_2 (List.mem_of_getElem? (i := 48) rfl) rfl
theorem tw_302 : (Jvm.Cond.fieldLink "LeastRue" (10 : Nat) "LeastRue" "bench" "LLeastRue$Bench;") ∈ lw_g := tc_2 (List.mem_of_getElem? (i := 62) rfl) rfl
theorem tw_303 : (Jvm.Cond.fieldLink "LeastRue" (19 : Nat) "LeastRue" "choices" "LLeastRue$Choices;") ∈ lw_g := tc_2 (List.mem_of_getElem? (i := 63) rfl) rfl
theorem tw_304 : (Jvm.Cond.fieldLink "LeastRue" (29 : Nat) "LeastRue" "sheets" "[LLeastRue$Sheet;") ∈ lw_g := tc_2 (List.mem_of_getElem? (i := 64) rfl) rfl
theorem tw_305 : (Jvm.Cond.fieldLink "LeastRue" (34 : Nat) "LeastRue" "images" "[LLeastRue$Bench;") ∈ lw_g := tc_2 (List.mem_of_getElem? (i := 65) rfl) rfl
theorem tw_306 : (Jvm.Cond.fieldLink "LeastRue" (38 : Nat) "LeastRue" "kept" "[Z") ∈ lw_g := tc_2 (List.mem_of_getElem? (i := 66) rfl) rfl
theorem tw_307 : (Jvm.Cond.fieldLink "LeastRue" (47 : Nat) "LeastRue" "byEnds" "LLeastRue$ByEnds;") ∈ lw_g := tc_2 (List.mem_of_getElem? (i := 67) rfl) rfl
theorem tw_308 : (Jvm.Cond.fieldLink "LeastRue" (54 : Nat) "LeastRue" "byWorlds" "LLeastRue$ByWorlds;") ∈ lw_g := tc_2 (List.mem_of_getElem? (i := 68) rfl) rfl
theorem tw_309 : (Jvm.Cond.fieldLink "LeastRue" (61 : Nat) "LeastRue" "twoWorlds" "LLeastRue$TwoWorlds;") ∈ lw_g := tc_2 (List.mem_of_getElem? (i := 69) rfl) rfl
theorem tw_310 : (Jvm.Cond.fieldLink "LeastRue" (68 : Nat) "LeastRue" "twoSteps" "LLeastRue$TwoSteps;") ∈ lw_g := tc_2 (List.mem_of_getElem? (i := 70) rfl) rfl
theorem tw_311 : (Jvm.Cond.fieldLink "LeastRue" (262 : Nat) "LeastRue" "status" "I") ∈ lw_g := tc_2 (List.mem_of_getElem? (i := 71) rfl) rfl
theorem tw_333 : (Jvm.Cond.methodLink "LeastRueLaw" (13 : Nat) ({ cls := "LeastRue", name := "thing", desc := "(II)I" } : Jvm.MethodName)) ∈ lw_g := tc_2 (List.mem_of_getElem? (i := 93) rfl) rfl
theorem tw_334 : (Jvm.Cond.instanceMethod ({ cls := "LeastRue", name := "thing", desc := "(II)I" } : Jvm.MethodName)) ∈ lw_g := tc_2 (List.mem_of_getElem? (i := 94) rfl) rfl
theorem tw_335 : (Jvm.Cond.selects "LeastRue" ({ cls := "LeastRue", name := "thing", desc := "(II)I" } : Jvm.MethodName) ({ cls := "LeastRue", name := "thing", desc := "(II)I" } : Jvm.MethodName)) ∈ lw_g := tc_2 (List.mem_of_getElem? (i := 95) rfl) rfl
theorem tw_336 : (Jvm.Cond.code ({ cls := "LeastRue", name := "thing", desc := "(II)I" } : Jvm.MethodName) prog_1_method_2_code (3 : Nat) (Option.some Jvm.ClassFile.FieldType.int)) ∈ lw_g := tc_2 (List.mem_of_getElem? (i := 96) rfl) rfl
theorem tw_337 : (Jvm.Cond.methodLink "LeastRue" (72 : Nat) ({ cls := "LeastRue", name := "areEnds", desc := "(II)Z" } : Jvm.MethodName)) ∈ lw_g := tc_2 (List.mem_of_getElem? (i := 97) rfl) rfl
theorem tw_338 : (Jvm.Cond.static ({ cls := "LeastRue", name := "areEnds", desc := "(II)Z" } : Jvm.MethodName)) ∈ lw_g := tc_2 (List.mem_of_getElem? (i := 98) rfl) rfl
theorem tw_339 : (Jvm.Cond.code ({ cls := "LeastRue", name := "areEnds", desc := "(II)Z" } : Jvm.MethodName) prog_1_method_45_code (2 : Nat) (Option.some Jvm.ClassFile.FieldType.boolean)) ∈ lw_g := tc_2 (List.mem_of_getElem? (i := 99) rfl) rfl
theorem tw_340 : (Jvm.Cond.methodLink "LeastRue" (111 : Nat) ({ cls := "LeastRue", name := "isCost", desc := "(I)Z" } : Jvm.MethodName)) ∈ lw_g := tc_2 (List.mem_of_getElem? (i := 100) rfl) rfl
theorem tw_341 : (Jvm.Cond.static ({ cls := "LeastRue", name := "isCost", desc := "(I)Z" } : Jvm.MethodName)) ∈ lw_g := tc_2 (List.mem_of_getElem? (i := 101) rfl) rfl
theorem tw_342 : (Jvm.Cond.code ({ cls := "LeastRue", name := "isCost", desc := "(I)Z" } : Jvm.MethodName) prog_1_method_44_code (1 : Nat) (Option.some Jvm.ClassFile.FieldType.boolean)) ∈ lw_g := tc_2 (List.mem_of_getElem? (i := 102) rfl) rfl
theorem tw_343 : (Jvm.Cond.methodLink "LeastRue" (76 : Nat) ({ cls := "LeastRue", name := "refused", desc := "(I)I" } : Jvm.MethodName)) ∈ lw_g := tc_2 (List.mem_of_getElem? (i := 103) rfl) rfl
theorem tw_345 : (Jvm.Cond.instanceMethod ({ cls := "LeastRue", name := "refused", desc := "(I)I" } : Jvm.MethodName)) ∈ lw_g := tc_2 (List.mem_of_getElem? (i := 105) rfl) rfl
theorem tw_346 : (Jvm.Cond.code ({ cls := "LeastRue", name := "refused", desc := "(I)I" } : Jvm.MethodName) prog_1_method_36_code (2 : Nat) (Option.some Jvm.ClassFile.FieldType.int)) ∈ lw_g := tc_2 (List.mem_of_getElem? (i := 106) rfl) rfl
theorem tw_347 : (Jvm.Cond.methodLink "LeastRue" (84 : Nat) ({ cls := "LeastRue$Bench", name := "addThing", desc := "(II)V" } : Jvm.MethodName)) ∈ lw_g := tc_2 (List.mem_of_getElem? (i := 107) rfl) rfl
theorem tw_348 : (Jvm.Cond.instanceMethod ({ cls := "LeastRue$Bench", name := "addThing", desc := "(II)V" } : Jvm.MethodName)) ∈ lw_g := tc_2 (List.mem_of_getElem? (i := 108) rfl) rfl
theorem tw_349 : (Jvm.Cond.selects "LeastRue$Bench" ({ cls := "LeastRue$Bench", name := "addThing", desc := "(II)V" } : Jvm.MethodName) ({ cls := "LeastRue$Bench", name := "addThing", desc := "(II)V" } : Jvm.MethodName)) ∈ lw_g := tc_2 (List.mem_of_getElem? (i := 109) rfl) rfl
theorem tw_350 : (Jvm.Cond.code ({ cls := "LeastRue$Bench", name := "addThing", desc := "(II)V" } : Jvm.MethodName) prog_2_method_2_code (3 : Nat) (Option.none : Option Jvm.ClassFile.FieldType)) ∈ lw_g := tc_2 (List.mem_of_getElem? (i := 110) rfl) rfl
theorem tw_351 : (Jvm.Cond.methodLink "LeastRue" (88 : Nat) ({ cls := "LeastRue", name := "accepted", desc := "(I)I" } : Jvm.MethodName)) ∈ lw_g := tc_2 (List.mem_of_getElem? (i := 111) rfl) rfl
theorem tw_353 : (Jvm.Cond.instanceMethod ({ cls := "LeastRue", name := "accepted", desc := "(I)I" } : Jvm.MethodName)) ∈ lw_g := tc_2 (List.mem_of_getElem? (i := 113) rfl) rfl
theorem tw_354 : (Jvm.Cond.code ({ cls := "LeastRue", name := "accepted", desc := "(I)I" } : Jvm.MethodName) prog_1_method_37_code (2 : Nat) (Option.some Jvm.ClassFile.FieldType.int)) ∈ lw_g := tc_2 (List.mem_of_getElem? (i := 114) rfl) rfl
theorem tw_355 : (Jvm.Cond.methodLink "LeastRue" (265 : Nat) ({ cls := "LeastRue$ByEnds", name := "workOutAnew", desc := "()V" } : Jvm.MethodName)) ∈ lw_g := tc_2 (List.mem_of_getElem? (i := 115) rfl) rfl
theorem tw_356 : (Jvm.Cond.instanceMethod ({ cls := "LeastRue$ByEnds", name := "workOutAnew", desc := "()V" } : Jvm.MethodName)) ∈ lw_g := tc_2 (List.mem_of_getElem? (i := 116) rfl) rfl
theorem tw_357 : (Jvm.Cond.selects "LeastRue$ByEnds" ({ cls := "LeastRue$ByEnds", name := "workOutAnew", desc := "()V" } : Jvm.MethodName) ({ cls := "LeastRue$ByEnds", name := "workOutAnew", desc := "()V" } : Jvm.MethodName)) ∈ lw_g := tc_2 (List.mem_of_getElem? (i := 117) rfl) rfl
theorem tw_358 : (Jvm.Cond.code ({ cls := "LeastRue$ByEnds", name := "workOutAnew", desc := "()V" } : Jvm.MethodName) prog_3_method_2_code (1 : Nat) (Option.none : Option Jvm.ClassFile.FieldType)) ∈ lw_g := tc_2 (List.mem_of_getElem? (i := 118) rfl) rfl
theorem tw_359 : (Jvm.Cond.methodLink "LeastRueLaw" (18 : Nat) ({ cls := "LeastRue", name := "ends", desc := "(III)I" } : Jvm.MethodName)) ∈ lw_g := tc_2 (List.mem_of_getElem? (i := 119) rfl) rfl
theorem tw_360 : (Jvm.Cond.instanceMethod ({ cls := "LeastRue", name := "ends", desc := "(III)I" } : Jvm.MethodName)) ∈ lw_g := tc_2 (List.mem_of_getElem? (i := 120) rfl) rfl
theorem tw_361 : (Jvm.Cond.selects "LeastRue" ({ cls := "LeastRue", name := "ends", desc := "(III)I" } : Jvm.MethodName) ({ cls := "LeastRue", name := "ends", desc := "(III)I" } : Jvm.MethodName)) ∈ lw_g := tc_2 (List.mem_of_getElem? (i := 121) rfl) rfl
theorem tw_362 : (Jvm.Cond.code ({ cls := "LeastRue", name := "ends", desc := "(III)I" } : Jvm.MethodName) prog_1_method_3_code (4 : Nat) (Option.some Jvm.ClassFile.FieldType.int)) ∈ lw_g := tc_2 (List.mem_of_getElem? (i := 122) rfl) rfl
theorem tw_363 : (Jvm.Cond.methodLink "LeastRue" (91 : Nat) ({ cls := "LeastRue", name := "isThing", desc := "(I)Z" } : Jvm.MethodName)) ∈ lw_g := tc_2 (List.mem_of_getElem? (i := 123) rfl) rfl
theorem tw_365 : (Jvm.Cond.instanceMethod ({ cls := "LeastRue", name := "isThing", desc := "(I)Z" } : Jvm.MethodName)) ∈ lw_g := tc_2 (List.mem_of_getElem? (i := 125) rfl) rfl
theorem tw_366 : (Jvm.Cond.code ({ cls := "LeastRue", name := "isThing", desc := "(I)Z" } : Jvm.MethodName) prog_1_method_38_code (2 : Nat) (Option.some Jvm.ClassFile.FieldType.boolean)) ∈ lw_g := tc_2 (List.mem_of_getElem? (i := 126) rfl) rfl
theorem tw_367 : (Jvm.Cond.methodLink "LeastRue" (102 : Nat) ({ cls := "LeastRue", name := "isWithin", desc := "(II)Z" } : Jvm.MethodName)) ∈ lw_g := tc_2 (List.mem_of_getElem? (i := 127) rfl) rfl
theorem tw_368 : (Jvm.Cond.static ({ cls := "LeastRue", name := "isWithin", desc := "(II)Z" } : Jvm.MethodName)) ∈ lw_g := tc_2 (List.mem_of_getElem? (i := 128) rfl) rfl
theorem tw_369 : (Jvm.Cond.code ({ cls := "LeastRue", name := "isWithin", desc := "(II)Z" } : Jvm.MethodName) prog_1_method_43_code (2 : Nat) (Option.some Jvm.ClassFile.FieldType.boolean)) ∈ lw_g := tc_2 (List.mem_of_getElem? (i := 129) rfl) rfl
theorem tw_370 : (Jvm.Cond.methodLink "LeastRueLaw" (23 : Nat) ({ cls := "LeastRue", name := "posts", desc := "(III)I" } : Jvm.MethodName)) ∈ lw_g := tc_2 (List.mem_of_getElem? (i := 130) rfl) rfl
theorem tw_371 : (Jvm.Cond.instanceMethod ({ cls := "LeastRue", name := "posts", desc := "(III)I" } : Jvm.MethodName)) ∈ lw_g := tc_2 (List.mem_of_getElem? (i := 131) rfl) rfl
theorem tw_372 : (Jvm.Cond.selects "LeastRue" ({ cls := "LeastRue", name := "posts", desc := "(III)I" } : Jvm.MethodName) ({ cls := "LeastRue", name := "posts", desc := "(III)I" } : Jvm.MethodName)) ∈ lw_g := tc_2 (List.mem_of_getElem? (i := 132) rfl) rfl
theorem tw_373 : (Jvm.Cond.code ({ cls := "LeastRue", name := "posts", desc := "(III)I" } : Jvm.MethodName) prog_1_method_4_code (6 : Nat) (Option.some Jvm.ClassFile.FieldType.int)) ∈ lw_g := tc_2 (List.mem_of_getElem? (i := 133) rfl) rfl
theorem tw_374 : (Jvm.Cond.methodLink "LeastRueLaw" (27 : Nat) ({ cls := "LeastRue", name := "price", desc := "(II)I" } : Jvm.MethodName)) ∈ lw_g := tc_2 (List.mem_of_getElem? (i := 134) rfl) rfl
theorem tw_375 : (Jvm.Cond.instanceMethod ({ cls := "LeastRue", name := "price", desc := "(II)I" } : Jvm.MethodName)) ∈ lw_g := tc_2 (List.mem_of_getElem? (i := 135) rfl) rfl
theorem tw_376 : (Jvm.Cond.selects "LeastRue" ({ cls := "LeastRue", name := "price", desc := "(II)I" } : Jvm.MethodName) ({ cls := "LeastRue", name := "price", desc := "(II)I" } : Jvm.MethodName)) ∈ lw_g := tc_2 (List.mem_of_getElem? (i := 136) rfl) rfl
theorem tw_377 : (Jvm.Cond.code ({ cls := "LeastRue", name := "price", desc := "(II)I" } : Jvm.MethodName) prog_1_method_5_code (4 : Nat) (Option.some Jvm.ClassFile.FieldType.int)) ∈ lw_g := tc_2 (List.mem_of_getElem? (i := 137) rfl) rfl
theorem tw_378 : (Jvm.Cond.methodLink "LeastRueLaw" (31 : Nat) ({ cls := "LeastRue", name := "kind", desc := "(II)I" } : Jvm.MethodName)) ∈ lw_g := tc_2 (List.mem_of_getElem? (i := 138) rfl) rfl
theorem tw_379 : (Jvm.Cond.instanceMethod ({ cls := "LeastRue", name := "kind", desc := "(II)I" } : Jvm.MethodName)) ∈ lw_g := tc_2 (List.mem_of_getElem? (i := 139) rfl) rfl
theorem tw_380 : (Jvm.Cond.selects "LeastRue" ({ cls := "LeastRue", name := "kind", desc := "(II)I" } : Jvm.MethodName) ({ cls := "LeastRue", name := "kind", desc := "(II)I" } : Jvm.MethodName)) ∈ lw_g := tc_2 (List.mem_of_getElem? (i := 140) rfl) rfl
theorem tw_381 : (Jvm.Cond.code ({ cls := "LeastRue", name := "kind", desc := "(II)I" } : Jvm.MethodName) prog_1_method_6_code (5 : Nat) (Option.some Jvm.ClassFile.FieldType.int)) ∈ lw_g := tc_2 (List.mem_of_getElem? (i := 141) rfl) rfl
theorem tw_382 : (Jvm.Cond.fieldLink "LeastRue" (117 : Nat) "LeastRue" "LEAST_K" "[I") ∈ lw_g := tc_2 (List.mem_of_getElem? (i := 142) rfl) rfl
theorem tw_383 : (Jvm.Cond.laysStatic "LeastRue" "LEAST_K" "[I") ∈ lw_tbl := tn_2 (List.mem_of_getElem? (i := 143) rfl)
theorem tw_384 : (Jvm.Cond.fieldLink "LeastRue" (120 : Nat) "LeastRue" "MOST_K" "[I") ∈ lw_g := tc_2 (List.mem_of_getElem? (i := 144) rfl) rfl
theorem tw_385 : (Jvm.Cond.laysStatic "LeastRue" "MOST_K" "[I") ∈ lw_tbl := tn_2 (List.mem_of_getElem? (i := 145) rfl)
theorem tw_386 : (Jvm.Cond.methodLink "LeastRueLaw" (35 : Nat) ({ cls := "LeastRue", name := "sheet", desc := "(III)I" } : Jvm.MethodName)) ∈ lw_g := tc_2 (List.mem_of_getElem? (i := 146) rfl) rfl
theorem tw_387 : (Jvm.Cond.instanceMethod ({ cls := "LeastRue", name := "sheet", desc := "(III)I" } : Jvm.MethodName)) ∈ lw_g := tc_2 (List.mem_of_getElem? (i := 147) rfl) rfl
theorem tw_388 : (Jvm.Cond.selects "LeastRue" ({ cls := "LeastRue", name := "sheet", desc := "(III)I" } : Jvm.MethodName) ({ cls := "LeastRue", name := "sheet", desc := "(III)I" } : Jvm.MethodName)) ∈ lw_g := tc_2 (List.mem_of_getElem? (i := 148) rfl) rfl
theorem tw_389 : (Jvm.Cond.code ({ cls := "LeastRue", name := "sheet", desc := "(III)I" } : Jvm.MethodName) prog_1_method_7_code (4 : Nat) (Option.some Jvm.ClassFile.FieldType.int)) ∈ lw_g := tc_2 (List.mem_of_getElem? (i := 149) rfl) rfl
theorem tw_390 : (Jvm.Cond.methodLink "LeastRue" (132 : Nat) ({ cls := "LeastRue$Sheet", name := "drop", desc := "()V" } : Jvm.MethodName)) ∈ lw_g := tc_2 (List.mem_of_getElem? (i := 150) rfl) rfl
theorem tw_391 : (Jvm.Cond.instanceMethod ({ cls := "LeastRue$Sheet", name := "drop", desc := "()V" } : Jvm.MethodName)) ∈ lw_g := tc_2 (List.mem_of_getElem? (i := 151) rfl) rfl
theorem tw_392 : (Jvm.Cond.selects "LeastRue$Sheet" ({ cls := "LeastRue$Sheet", name := "drop", desc := "()V" } : Jvm.MethodName) ({ cls := "LeastRue$Sheet", name := "drop", desc := "()V" } : Jvm.MethodName)) ∈ lw_g := tc_2 (List.mem_of_getElem? (i := 152) rfl) rfl
theorem tw_393 : (Jvm.Cond.code ({ cls := "LeastRue$Sheet", name := "drop", desc := "()V" } : Jvm.MethodName) prog_6_method_3_code (1 : Nat) (Option.none : Option Jvm.ClassFile.FieldType)) ∈ lw_g := tc_2 (List.mem_of_getElem? (i := 153) rfl) rfl
theorem tw_394 : (Jvm.Cond.methodLink "LeastRue" (135 : Nat) ({ cls := "LeastRue$Sheet", name := "open", desc := "(II)V" } : Jvm.MethodName)) ∈ lw_g := tc_2 (List.mem_of_getElem? (i := 154) rfl) rfl
theorem tw_395 : (Jvm.Cond.instanceMethod ({ cls := "LeastRue$Sheet", name := "open", desc := "(II)V" } : Jvm.MethodName)) ∈ lw_g := tc_2 (List.mem_of_getElem? (i := 155) rfl) rfl
theorem tw_396 : (Jvm.Cond.selects "LeastRue$Sheet" ({ cls := "LeastRue$Sheet", name := "open", desc := "(II)V" } : Jvm.MethodName) ({ cls := "LeastRue$Sheet", name := "open", desc := "(II)V" } : Jvm.MethodName)) ∈ lw_g := tc_2 (List.mem_of_getElem? (i := 156) rfl) rfl
theorem tw_397 : (Jvm.Cond.code ({ cls := "LeastRue$Sheet", name := "open", desc := "(II)V" } : Jvm.MethodName) prog_6_method_2_code (3 : Nat) (Option.none : Option Jvm.ClassFile.FieldType)) ∈ lw_g := tc_2 (List.mem_of_getElem? (i := 157) rfl) rfl
theorem tw_398 : (Jvm.Cond.methodLink "LeastRue$Sheet" (22 : Nat) ({ cls := "java/util/Arrays", name := "fill", desc := "([II)V" } : Jvm.MethodName)) ∈ lw_g := tc_2 (List.mem_of_getElem? (i := 158) rfl) rfl
theorem tw_399 : (Jvm.Cond.static ({ cls := "java/util/Arrays", name := "fill", desc := "([II)V" } : Jvm.MethodName)) ∈ lw_g := tc_2 (List.mem_of_getElem? (i := 159) rfl) rfl
theorem tw_400 : (Jvm.Cond.code ({ cls := "java/util/Arrays", name := "fill", desc := "([II)V" } : Jvm.MethodName) prog_15_method_103_code (4 : Nat) (Option.none : Option Jvm.ClassFile.FieldType)) ∈ lw_g := tc_2 (List.mem_of_getElem? (i := 160) rfl) rfl
theorem tw_401 : (Jvm.Cond.methodLink "LeastRueLaw" (39 : Nat) ({ cls := "LeastRue", name := "write", desc := "(III)I" } : Jvm.MethodName)) ∈ lw_g := tc_2 (List.mem_of_getElem? (i := 161) rfl) rfl
theorem tw_402 : (Jvm.Cond.instanceMethod ({ cls := "LeastRue", name := "write", desc := "(III)I" } : Jvm.MethodName)) ∈ lw_g := tc_2 (List.mem_of_getElem? (i := 162) rfl) rfl
theorem tw_403 : (Jvm.Cond.selects "LeastRue" ({ cls := "LeastRue", name := "write", desc := "(III)I" } : Jvm.MethodName) ({ cls := "LeastRue", name := "write", desc := "(III)I" } : Jvm.MethodName)) ∈ lw_g := tc_2 (List.mem_of_getElem? (i := 163) rfl) rfl
theorem tw_404 : (Jvm.Cond.code ({ cls := "LeastRue", name := "write", desc := "(III)I" } : Jvm.MethodName) prog_1_method_8_code (4 : Nat) (Option.some Jvm.ClassFile.FieldType.int)) ∈ lw_g := tc_2 (List.mem_of_getElem? (i := 164) rfl) rfl
theorem tw_405 : (Jvm.Cond.methodLink "LeastRue" (138 : Nat) ({ cls := "LeastRue$Sheet", name := "isMissing", desc := "()Z" } : Jvm.MethodName)) ∈ lw_g := tc_2 (List.mem_of_getElem? (i := 165) rfl) rfl
theorem tw_406 : (Jvm.Cond.instanceMethod ({ cls := "LeastRue$Sheet", name := "isMissing", desc := "()Z" } : Jvm.MethodName)) ∈ lw_g := tc_2 (List.mem_of_getElem? (i := 166) rfl) rfl
theorem tw_407 : (Jvm.Cond.selects "LeastRue$Sheet" ({ cls := "LeastRue$Sheet", name := "isMissing", desc := "()Z" } : Jvm.MethodName) ({ cls := "LeastRue$Sheet", name := "isMissing", desc := "()Z" } : Jvm.MethodName)) ∈ lw_g := tc_2 (List.mem_of_getElem? (i := 167) rfl) rfl
theorem tw_408 : (Jvm.Cond.code ({ cls := "LeastRue$Sheet", name := "isMissing", desc := "()Z" } : Jvm.MethodName) prog_6_method_4_code (1 : Nat) (Option.some Jvm.ClassFile.FieldType.boolean)) ∈ lw_g := tc_2 (List.mem_of_getElem? (i := 168) rfl) rfl
theorem tw_409 : (Jvm.Cond.methodLink "LeastRue" (142 : Nat) ({ cls := "LeastRue$Sheet", name := "hasPlace", desc := "(J)Z" } : Jvm.MethodName)) ∈ lw_g := tc_2 (List.mem_of_getElem? (i := 169) rfl) rfl
theorem tw_410 : (Jvm.Cond.instanceMethod ({ cls := "LeastRue$Sheet", name := "hasPlace", desc := "(J)Z" } : Jvm.MethodName)) ∈ lw_g := tc_2 (List.mem_of_getElem? (i := 170) rfl) rfl
theorem tw_411 : (Jvm.Cond.selects "LeastRue$Sheet" ({ cls := "LeastRue$Sheet", name := "hasPlace", desc := "(J)Z" } : Jvm.MethodName) ({ cls := "LeastRue$Sheet", name := "hasPlace", desc := "(J)Z" } : Jvm.MethodName)) ∈ lw_g := tc_2 (List.mem_of_getElem? (i := 171) rfl) rfl
theorem tw_412 : (Jvm.Cond.code ({ cls := "LeastRue$Sheet", name := "hasPlace", desc := "(J)Z" } : Jvm.MethodName) prog_6_method_5_code (3 : Nat) (Option.some Jvm.ClassFile.FieldType.boolean)) ∈ lw_g := tc_2 (List.mem_of_getElem? (i := 172) rfl) rfl
theorem tw_413 : (Jvm.Cond.methodLink "LeastRue" (146 : Nat) ({ cls := "LeastRue$Sheet", name := "put", desc := "(II)V" } : Jvm.MethodName)) ∈ lw_g := tc_2 (List.mem_of_getElem? (i := 173) rfl) rfl
theorem tw_414 : (Jvm.Cond.instanceMethod ({ cls := "LeastRue$Sheet", name := "put", desc := "(II)V" } : Jvm.MethodName)) ∈ lw_g := tc_2 (List.mem_of_getElem? (i := 174) rfl) rfl
theorem tw_415 : (Jvm.Cond.selects "LeastRue$Sheet" ({ cls := "LeastRue$Sheet", name := "put", desc := "(II)V" } : Jvm.MethodName) ({ cls := "LeastRue$Sheet", name := "put", desc := "(II)V" } : Jvm.MethodName)) ∈ lw_g := tc_2 (List.mem_of_getElem? (i := 175) rfl) rfl
theorem tw_416 : (Jvm.Cond.code ({ cls := "LeastRue$Sheet", name := "put", desc := "(II)V" } : Jvm.MethodName) prog_6_method_6_code (3 : Nat) (Option.none : Option Jvm.ClassFile.FieldType)) ∈ lw_g := tc_2 (List.mem_of_getElem? (i := 176) rfl) rfl
theorem tw_417 : (Jvm.Cond.methodLink "LeastRueLaw" (43 : Nat) ({ cls := "LeastRue", name := "world", desc := "(III)I" } : Jvm.MethodName)) ∈ lw_g := tc_2 (List.mem_of_getElem? (i := 177) rfl) rfl
theorem tw_418 : (Jvm.Cond.instanceMethod ({ cls := "LeastRue", name := "world", desc := "(III)I" } : Jvm.MethodName)) ∈ lw_g := tc_2 (List.mem_of_getElem? (i := 178) rfl) rfl
theorem tw_419 : (Jvm.Cond.selects "LeastRue" ({ cls := "LeastRue", name := "world", desc := "(III)I" } : Jvm.MethodName) ({ cls := "LeastRue", name := "world", desc := "(III)I" } : Jvm.MethodName)) ∈ lw_g := tc_2 (List.mem_of_getElem? (i := 179) rfl) rfl
theorem tw_420 : (Jvm.Cond.code ({ cls := "LeastRue", name := "world", desc := "(III)I" } : Jvm.MethodName) prog_1_method_9_code (5 : Nat) (Option.some Jvm.ClassFile.FieldType.int)) ∈ lw_g := tc_2 (List.mem_of_getElem? (i := 180) rfl) rfl
theorem tw_421 : (Jvm.Cond.methodLink "LeastRue" (149 : Nat) ({ cls := "LeastRue", name := "holdsCosts", desc := "(LLeastRue$Sheet;I)Z" } : Jvm.MethodName)) ∈ lw_g := tc_2 (List.mem_of_getElem? (i := 181) rfl) rfl
theorem tw_423 : (Jvm.Cond.instanceMethod ({ cls := "LeastRue", name := "holdsCosts", desc := "(LLeastRue$Sheet;I)Z" } : Jvm.MethodName)) ∈ lw_g := tc_2 (List.mem_of_getElem? (i := 183) rfl) rfl
theorem tw_424 : (Jvm.Cond.code ({ cls := "LeastRue", name := "holdsCosts", desc := "(LLeastRue$Sheet;I)Z" } : Jvm.MethodName) prog_1_method_41_code (4 : Nat) (Option.some Jvm.ClassFile.FieldType.boolean)) ∈ lw_g := tc_2 (List.mem_of_getElem? (i := 184) rfl) rfl
theorem tw_425 : (Jvm.Cond.methodLink "LeastRue" (157 : Nat) ({ cls := "LeastRue$Sheet", name := "numberAt", desc := "(J)I" } : Jvm.MethodName)) ∈ lw_g := tc_2 (List.mem_of_getElem? (i := 185) rfl) rfl
theorem tw_426 : (Jvm.Cond.instanceMethod ({ cls := "LeastRue$Sheet", name := "numberAt", desc := "(J)I" } : Jvm.MethodName)) ∈ lw_g := tc_2 (List.mem_of_getElem? (i := 186) rfl) rfl
theorem tw_427 : (Jvm.Cond.selects "LeastRue$Sheet" ({ cls := "LeastRue$Sheet", name := "numberAt", desc := "(J)I" } : Jvm.MethodName) ({ cls := "LeastRue$Sheet", name := "numberAt", desc := "(J)I" } : Jvm.MethodName)) ∈ lw_g := tc_2 (List.mem_of_getElem? (i := 187) rfl) rfl
theorem tw_428 : (Jvm.Cond.code ({ cls := "LeastRue$Sheet", name := "numberAt", desc := "(J)I" } : Jvm.MethodName) prog_6_method_7_code (3 : Nat) (Option.some Jvm.ClassFile.FieldType.int)) ∈ lw_g := tc_2 (List.mem_of_getElem? (i := 188) rfl) rfl
theorem tw_429 : (Jvm.Cond.methodLink "LeastRue$Sheet" (28 : Nat) ({ cls := "LeastRue$Sheet", name := "hasPlace", desc := "(J)Z" } : Jvm.MethodName)) ∈ lw_g := tc_2 (List.mem_of_getElem? (i := 189) rfl) rfl
theorem tw_430 : (Jvm.Cond.methodLink "LeastRue" (164 : Nat) ({ cls := "java/lang/Integer", name := "bitCount", desc := "(I)I" } : Jvm.MethodName)) ∈ lw_g := tc_2 (List.mem_of_getElem? (i := 190) rfl) rfl
theorem tw_431 : (Jvm.Cond.methodLink "LeastRueLaw" (47 : Nat) ({ cls := "LeastRue", name := "forget", desc := "(I)I" } : Jvm.MethodName)) ∈ lw_g := tc_2 (List.mem_of_getElem? (i := 191) rfl) rfl
theorem tw_432 : (Jvm.Cond.instanceMethod ({ cls := "LeastRue", name := "forget", desc := "(I)I" } : Jvm.MethodName)) ∈ lw_g := tc_2 (List.mem_of_getElem? (i := 192) rfl) rfl
theorem tw_433 : (Jvm.Cond.selects "LeastRue" ({ cls := "LeastRue", name := "forget", desc := "(I)I" } : Jvm.MethodName) ({ cls := "LeastRue", name := "forget", desc := "(I)I" } : Jvm.MethodName)) ∈ lw_g := tc_2 (List.mem_of_getElem? (i := 193) rfl) rfl
theorem tw_434 : (Jvm.Cond.code ({ cls := "LeastRue", name := "forget", desc := "(I)I" } : Jvm.MethodName) prog_1_method_10_code (2 : Nat) (Option.some Jvm.ClassFile.FieldType.int)) ∈ lw_g := tc_2 (List.mem_of_getElem? (i := 194) rfl) rfl
theorem tw_435 : (Jvm.Cond.methodLink "LeastRue" (169 : Nat) ({ cls := "LeastRue$Bench", name := "hasWorld", desc := "(I)Z" } : Jvm.MethodName)) ∈ lw_g := tc_2 (List.mem_of_getElem? (i := 195) rfl) rfl
theorem tw_436 : (Jvm.Cond.instanceMethod ({ cls := "LeastRue$Bench", name := "hasWorld", desc := "(I)Z" } : Jvm.MethodName)) ∈ lw_g := tc_2 (List.mem_of_getElem? (i := 196) rfl) rfl
theorem tw_437 : (Jvm.Cond.selects "LeastRue$Bench" ({ cls := "LeastRue$Bench", name := "hasWorld", desc := "(I)Z" } : Jvm.MethodName) ({ cls := "LeastRue$Bench", name := "hasWorld", desc := "(I)Z" } : Jvm.MethodName)) ∈ lw_g := tc_2 (List.mem_of_getElem? (i := 197) rfl) rfl
theorem tw_438 : (Jvm.Cond.code ({ cls := "LeastRue$Bench", name := "hasWorld", desc := "(I)Z" } : Jvm.MethodName) prog_2_method_4_code (2 : Nat) (Option.some Jvm.ClassFile.FieldType.boolean)) ∈ lw_g := tc_2 (List.mem_of_getElem? (i := 198) rfl) rfl
theorem tw_439 : (Jvm.Cond.methodLinkNest "LeastRue$Bench" (51 : Nat) ({ cls := "LeastRue", name := "isWithin", desc := "(II)Z" } : Jvm.MethodName) "LeastRue") ∈ lw_tbl := tn_2 (List.mem_of_getElem? (i := 199) rfl)
theorem tw_440 : (Jvm.Cond.methodLink "LeastRueLaw" (52 : Nat) ({ cls := "LeastRue", name := "count", desc := "(I)I" } : Jvm.MethodName)) ∈ lw_g := tc_2 (List.mem_of_getElem? (i := 200) rfl) rfl
theorem tw_441 : (Jvm.Cond.instanceMethod ({ cls := "LeastRue", name := "count", desc := "(I)I" } : Jvm.MethodName)) ∈ lw_g := tc_2 (List.mem_of_getElem? (i := 201) rfl) rfl
theorem tw_442 : (Jvm.Cond.selects "LeastRue" ({ cls := "LeastRue", name := "count", desc := "(I)I" } : Jvm.MethodName) ({ cls := "LeastRue", name := "count", desc := "(I)I" } : Jvm.MethodName)) ∈ lw_g := tc_2 (List.mem_of_getElem? (i := 202) rfl) rfl
theorem tw_443 : (Jvm.Cond.code ({ cls := "LeastRue", name := "count", desc := "(I)I" } : Jvm.MethodName) prog_1_method_11_code (2 : Nat) (Option.some Jvm.ClassFile.FieldType.int)) ∈ lw_g := tc_2 (List.mem_of_getElem? (i := 203) rfl) rfl
theorem tw_444 : (Jvm.Cond.methodLink "LeastRue" (172 : Nat) ({ cls := "LeastRue", name := "sheetsThere", desc := "()I" } : Jvm.MethodName)) ∈ lw_g := tc_2 (List.mem_of_getElem? (i := 204) rfl) rfl
theorem tw_446 : (Jvm.Cond.instanceMethod ({ cls := "LeastRue", name := "sheetsThere", desc := "()I" } : Jvm.MethodName)) ∈ lw_g := tc_2 (List.mem_of_getElem? (i := 206) rfl) rfl
theorem tw_447 : (Jvm.Cond.code ({ cls := "LeastRue", name := "sheetsThere", desc := "()I" } : Jvm.MethodName) prog_1_method_42_code (3 : Nat) (Option.some Jvm.ClassFile.FieldType.int)) ∈ lw_g := tc_2 (List.mem_of_getElem? (i := 207) rfl) rfl
theorem tw_448 : (Jvm.Cond.methodLink "LeastRueLaw" (56 : Nat) ({ cls := "LeastRue", name := "choice", desc := "(I)I" } : Jvm.MethodName)) ∈ lw_g := tc_2 (List.mem_of_getElem? (i := 208) rfl) rfl
theorem tw_449 : (Jvm.Cond.instanceMethod ({ cls := "LeastRue", name := "choice", desc := "(I)I" } : Jvm.MethodName)) ∈ lw_g := tc_2 (List.mem_of_getElem? (i := 209) rfl) rfl
theorem tw_450 : (Jvm.Cond.selects "LeastRue" ({ cls := "LeastRue", name := "choice", desc := "(I)I" } : Jvm.MethodName) ({ cls := "LeastRue", name := "choice", desc := "(I)I" } : Jvm.MethodName)) ∈ lw_g := tc_2 (List.mem_of_getElem? (i := 210) rfl) rfl
theorem tw_451 : (Jvm.Cond.code ({ cls := "LeastRue", name := "choice", desc := "(I)I" } : Jvm.MethodName) prog_1_method_12_code (2 : Nat) (Option.some Jvm.ClassFile.FieldType.int)) ∈ lw_g := tc_2 (List.mem_of_getElem? (i := 211) rfl) rfl
theorem tw_452 : (Jvm.Cond.methodLink "LeastRue" (176 : Nat) ({ cls := "LeastRue$Choices", name := "has", desc := "(I)Z" } : Jvm.MethodName)) ∈ lw_g := tc_2 (List.mem_of_getElem? (i := 212) rfl) rfl
theorem tw_453 : (Jvm.Cond.instanceMethod ({ cls := "LeastRue$Choices", name := "has", desc := "(I)Z" } : Jvm.MethodName)) ∈ lw_g := tc_2 (List.mem_of_getElem? (i := 213) rfl) rfl
theorem tw_454 : (Jvm.Cond.selects "LeastRue$Choices" ({ cls := "LeastRue$Choices", name := "has", desc := "(I)Z" } : Jvm.MethodName) ({ cls := "LeastRue$Choices", name := "has", desc := "(I)Z" } : Jvm.MethodName)) ∈ lw_g := tc_2 (List.mem_of_getElem? (i := 214) rfl) rfl
theorem tw_455 : (Jvm.Cond.code ({ cls := "LeastRue$Choices", name := "has", desc := "(I)Z" } : Jvm.MethodName) prog_5_method_2_code (2 : Nat) (Option.some Jvm.ClassFile.FieldType.boolean)) ∈ lw_g := tc_2 (List.mem_of_getElem? (i := 215) rfl) rfl
theorem tw_456 : (Jvm.Cond.methodLinkNest "LeastRue$Choices" (22 : Nat) ({ cls := "LeastRue", name := "isWithin", desc := "(II)Z" } : Jvm.MethodName) "LeastRue") ∈ lw_tbl := tn_2 (List.mem_of_getElem? (i := 216) rfl)
theorem tw_457 : (Jvm.Cond.methodLink "LeastRueLaw" (60 : Nat) ({ cls := "LeastRue", name := "find", desc := "(I)I" } : Jvm.MethodName)) ∈ lw_g := tc_2 (List.mem_of_getElem? (i := 217) rfl) rfl
theorem tw_458 : (Jvm.Cond.instanceMethod ({ cls := "LeastRue", name := "find", desc := "(I)I" } : Jvm.MethodName)) ∈ lw_g := tc_2 (List.mem_of_getElem? (i := 218) rfl) rfl
theorem tw_459 : (Jvm.Cond.selects "LeastRue" ({ cls := "LeastRue", name := "find", desc := "(I)I" } : Jvm.MethodName) ({ cls := "LeastRue", name := "find", desc := "(I)I" } : Jvm.MethodName)) ∈ lw_g := tc_2 (List.mem_of_getElem? (i := 219) rfl) rfl
theorem tw_460 : (Jvm.Cond.code ({ cls := "LeastRue", name := "find", desc := "(I)I" } : Jvm.MethodName) prog_1_method_13_code (3 : Nat) (Option.some Jvm.ClassFile.FieldType.int)) ∈ lw_g := tc_2 (List.mem_of_getElem? (i := 220) rfl) rfl
theorem tw_461 : (Jvm.Cond.methodLink "LeastRueLaw" (64 : Nat) ({ cls := "LeastRue", name := "of", desc := "(II)I" } : Jvm.MethodName)) ∈ lw_g := tc_2 (List.mem_of_getElem? (i := 221) rfl) rfl
theorem tw_462 : (Jvm.Cond.instanceMethod ({ cls := "LeastRue", name := "of", desc := "(II)I" } : Jvm.MethodName)) ∈ lw_g := tc_2 (List.mem_of_getElem? (i := 222) rfl) rfl
theorem tw_463 : (Jvm.Cond.selects "LeastRue" ({ cls := "LeastRue", name := "of", desc := "(II)I" } : Jvm.MethodName) ({ cls := "LeastRue", name := "of", desc := "(II)I" } : Jvm.MethodName)) ∈ lw_g := tc_2 (List.mem_of_getElem? (i := 223) rfl) rfl
theorem tw_464 : (Jvm.Cond.code ({ cls := "LeastRue", name := "of", desc := "(II)I" } : Jvm.MethodName) prog_1_method_14_code (3 : Nat) (Option.some Jvm.ClassFile.FieldType.int)) ∈ lw_g := tc_2 (List.mem_of_getElem? (i := 224) rfl) rfl
theorem tw_465 : (Jvm.Cond.methodLink "LeastRue" (182 : Nat) ({ cls := "LeastRue", name := "costOfThing", desc := "(II)I" } : Jvm.MethodName)) ∈ lw_g := tc_2 (List.mem_of_getElem? (i := 225) rfl) rfl
theorem tw_467 : (Jvm.Cond.instanceMethod ({ cls := "LeastRue", name := "costOfThing", desc := "(II)I" } : Jvm.MethodName)) ∈ lw_g := tc_2 (List.mem_of_getElem? (i := 227) rfl) rfl
theorem tw_468 : (Jvm.Cond.code ({ cls := "LeastRue", name := "costOfThing", desc := "(II)I" } : Jvm.MethodName) prog_1_method_40_code (3 : Nat) (Option.some Jvm.ClassFile.FieldType.int)) ∈ lw_g := tc_2 (List.mem_of_getElem? (i := 228) rfl) rfl
theorem tw_469 : (Jvm.Cond.methodLink "LeastRueLaw" (68 : Nat) ({ cls := "LeastRue", name := "cost", desc := "(II)I" } : Jvm.MethodName)) ∈ lw_g := tc_2 (List.mem_of_getElem? (i := 229) rfl) rfl
theorem tw_470 : (Jvm.Cond.instanceMethod ({ cls := "LeastRue", name := "cost", desc := "(II)I" } : Jvm.MethodName)) ∈ lw_g := tc_2 (List.mem_of_getElem? (i := 230) rfl) rfl
theorem tw_471 : (Jvm.Cond.selects "LeastRue" ({ cls := "LeastRue", name := "cost", desc := "(II)I" } : Jvm.MethodName) ({ cls := "LeastRue", name := "cost", desc := "(II)I" } : Jvm.MethodName)) ∈ lw_g := tc_2 (List.mem_of_getElem? (i := 231) rfl) rfl
theorem tw_472 : (Jvm.Cond.code ({ cls := "LeastRue", name := "cost", desc := "(II)I" } : Jvm.MethodName) prog_1_method_15_code (3 : Nat) (Option.some Jvm.ClassFile.FieldType.int)) ∈ lw_g := tc_2 (List.mem_of_getElem? (i := 232) rfl) rfl
theorem tw_473 : (Jvm.Cond.methodLink "LeastRue" (186 : Nat) ({ cls := "LeastRue", name := "isBeyondThings", desc := "(I)Z" } : Jvm.MethodName)) ∈ lw_g := tc_2 (List.mem_of_getElem? (i := 233) rfl) rfl
theorem tw_475 : (Jvm.Cond.instanceMethod ({ cls := "LeastRue", name := "isBeyondThings", desc := "(I)Z" } : Jvm.MethodName)) ∈ lw_g := tc_2 (List.mem_of_getElem? (i := 235) rfl) rfl
theorem tw_476 : (Jvm.Cond.code ({ cls := "LeastRue", name := "isBeyondThings", desc := "(I)Z" } : Jvm.MethodName) prog_1_method_39_code (2 : Nat) (Option.some Jvm.ClassFile.FieldType.boolean)) ∈ lw_g := tc_2 (List.mem_of_getElem? (i := 236) rfl) rfl
theorem tw_477 : (Jvm.Cond.methodLink "LeastRue" (189 : Nat) ({ cls := "LeastRue$ByEnds", name := "costAt", desc := "(II)I" } : Jvm.MethodName)) ∈ lw_g := tc_2 (List.mem_of_getElem? (i := 237) rfl) rfl
theorem tw_478 : (Jvm.Cond.instanceMethod ({ cls := "LeastRue$ByEnds", name := "costAt", desc := "(II)I" } : Jvm.MethodName)) ∈ lw_g := tc_2 (List.mem_of_getElem? (i := 238) rfl) rfl
theorem tw_479 : (Jvm.Cond.selects "LeastRue$ByEnds" ({ cls := "LeastRue$ByEnds", name := "costAt", desc := "(II)I" } : Jvm.MethodName) ({ cls := "LeastRue$ByEnds", name := "costAt", desc := "(II)I" } : Jvm.MethodName)) ∈ lw_g := tc_2 (List.mem_of_getElem? (i := 239) rfl) rfl
theorem tw_480 : (Jvm.Cond.code ({ cls := "LeastRue$ByEnds", name := "costAt", desc := "(II)I" } : Jvm.MethodName) prog_3_method_3_code (3 : Nat) (Option.some Jvm.ClassFile.FieldType.int)) ∈ lw_g := tc_3 (List.mem_of_getElem? (i := 0) rfl) rfl
theorem tw_481 : (Jvm.Cond.methodLink "LeastRue$ByEnds" (52 : Nat) ({ cls := "LeastRue$ByEnds", name := "sumUp", desc := "()V" } : Jvm.MethodName)) ∈ lw_g := tc_3 (List.mem_of_getElem? (i := 1) rfl) rfl
theorem tw_483 : (Jvm.Cond.instanceMethod ({ cls := "LeastRue$ByEnds", name := "sumUp", desc := "()V" } : Jvm.MethodName)) ∈ lw_g := tc_3 (List.mem_of_getElem? (i := 3) rfl) rfl
theorem tw_484 : (Jvm.Cond.code ({ cls := "LeastRue$ByEnds", name := "sumUp", desc := "()V" } : Jvm.MethodName) prog_3_method_12_code (2 : Nat) (Option.none : Option Jvm.ClassFile.FieldType)) ∈ lw_g := tc_3 (List.mem_of_getElem? (i := 4) rfl) rfl
theorem tw_485 : (Jvm.Cond.methodLink "LeastRue$ByEnds" (106 : Nat) ({ cls := "LeastRue$Sums", name := "fill", desc := "([I)V" } : Jvm.MethodName)) ∈ lw_g := tc_3 (List.mem_of_getElem? (i := 5) rfl) rfl
theorem tw_486 : (Jvm.Cond.instanceMethod ({ cls := "LeastRue$Sums", name := "fill", desc := "([I)V" } : Jvm.MethodName)) ∈ lw_g := tc_3 (List.mem_of_getElem? (i := 6) rfl) rfl
theorem tw_487 : (Jvm.Cond.selects "LeastRue$Sums" ({ cls := "LeastRue$Sums", name := "fill", desc := "([I)V" } : Jvm.MethodName) ({ cls := "LeastRue$Sums", name := "fill", desc := "([I)V" } : Jvm.MethodName)) ∈ lw_g := tc_3 (List.mem_of_getElem? (i := 7) rfl) rfl
theorem tw_488 : (Jvm.Cond.code ({ cls := "LeastRue$Sums", name := "fill", desc := "([I)V" } : Jvm.MethodName) prog_7_method_2_code (5 : Nat) (Option.none : Option Jvm.ClassFile.FieldType)) ∈ lw_g := tc_3 (List.mem_of_getElem? (i := 8) rfl) rfl
theorem tw_489 : (Jvm.Cond.methodLink "LeastRue$ByEnds" (60 : Nat) ({ cls := "LeastRue$Sums", name := "total", desc := "(I)I" } : Jvm.MethodName)) ∈ lw_g := tc_3 (List.mem_of_getElem? (i := 9) rfl) rfl
theorem tw_490 : (Jvm.Cond.instanceMethod ({ cls := "LeastRue$Sums", name := "total", desc := "(I)I" } : Jvm.MethodName)) ∈ lw_g := tc_3 (List.mem_of_getElem? (i := 10) rfl) rfl
theorem tw_491 : (Jvm.Cond.selects "LeastRue$Sums" ({ cls := "LeastRue$Sums", name := "total", desc := "(I)I" } : Jvm.MethodName) ({ cls := "LeastRue$Sums", name := "total", desc := "(I)I" } : Jvm.MethodName)) ∈ lw_g := tc_3 (List.mem_of_getElem? (i := 11) rfl) rfl
theorem tw_492 : (Jvm.Cond.code ({ cls := "LeastRue$Sums", name := "total", desc := "(I)I" } : Jvm.MethodName) prog_7_method_3_code (2 : Nat) (Option.some Jvm.ClassFile.FieldType.int)) ∈ lw_g := tc_3 (List.mem_of_getElem? (i := 12) rfl) rfl
theorem tw_493 : (Jvm.Cond.methodLink "LeastRueLaw" (72 : Nat) ({ cls := "LeastRue", name := "cheapest", desc := "(I)I" } : Jvm.MethodName)) ∈ lw_g := tc_3 (List.mem_of_getElem? (i := 13) rfl) rfl
theorem tw_494 : (Jvm.Cond.instanceMethod ({ cls := "LeastRue", name := "cheapest", desc := "(I)I" } : Jvm.MethodName)) ∈ lw_g := tc_3 (List.mem_of_getElem? (i := 14) rfl) rfl
theorem tw_495 : (Jvm.Cond.selects "LeastRue" ({ cls := "LeastRue", name := "cheapest", desc := "(I)I" } : Jvm.MethodName) ({ cls := "LeastRue", name := "cheapest", desc := "(I)I" } : Jvm.MethodName)) ∈ lw_g := tc_3 (List.mem_of_getElem? (i := 15) rfl) rfl
theorem tw_496 : (Jvm.Cond.code ({ cls := "LeastRue", name := "cheapest", desc := "(I)I" } : Jvm.MethodName) prog_1_method_16_code (2 : Nat) (Option.some Jvm.ClassFile.FieldType.int)) ∈ lw_g := tc_3 (List.mem_of_getElem? (i := 16) rfl) rfl
theorem tw_497 : (Jvm.Cond.methodLink "LeastRue" (192 : Nat) ({ cls := "LeastRue$ByEnds", name := "cheapestAt", desc := "(I)I" } : Jvm.MethodName)) ∈ lw_g := tc_3 (List.mem_of_getElem? (i := 17) rfl) rfl
theorem tw_498 : (Jvm.Cond.instanceMethod ({ cls := "LeastRue$ByEnds", name := "cheapestAt", desc := "(I)I" } : Jvm.MethodName)) ∈ lw_g := tc_3 (List.mem_of_getElem? (i := 18) rfl) rfl
theorem tw_499 : (Jvm.Cond.selects "LeastRue$ByEnds" ({ cls := "LeastRue$ByEnds", name := "cheapestAt", desc := "(I)I" } : Jvm.MethodName) ({ cls := "LeastRue$ByEnds", name := "cheapestAt", desc := "(I)I" } : Jvm.MethodName)) ∈ lw_g := tc_3 (List.mem_of_getElem? (i := 19) rfl) rfl
theorem tw_500 : (Jvm.Cond.code ({ cls := "LeastRue$ByEnds", name := "cheapestAt", desc := "(I)I" } : Jvm.MethodName) prog_3_method_4_code (3 : Nat) (Option.some Jvm.ClassFile.FieldType.int)) ∈ lw_g := tc_3 (List.mem_of_getElem? (i := 20) rfl) rfl
theorem tw_501 : (Jvm.Cond.methodLinkNest "LeastRue$ByEnds" (68 : Nat) ({ cls := "LeastRue", name := "firstLeast", desc := "([II)I" } : Jvm.MethodName) "LeastRue") ∈ lw_tbl := tn_3 (List.mem_of_getElem? (i := 21) rfl)
theorem tw_502 : (Jvm.Cond.static ({ cls := "LeastRue", name := "firstLeast", desc := "([II)I" } : Jvm.MethodName)) ∈ lw_g := tc_3 (List.mem_of_getElem? (i := 22) rfl) rfl
theorem tw_503 : (Jvm.Cond.code ({ cls := "LeastRue", name := "firstLeast", desc := "([II)I" } : Jvm.MethodName) prog_1_method_47_code (4 : Nat) (Option.some Jvm.ClassFile.FieldType.int)) ∈ lw_g := tc_3 (List.mem_of_getElem? (i := 23) rfl) rfl
theorem tw_504 : (Jvm.Cond.methodLink "LeastRueLaw" (76 : Nat) ({ cls := "LeastRue", name := "rue", desc := "(I)I" } : Jvm.MethodName)) ∈ lw_g := tc_3 (List.mem_of_getElem? (i := 24) rfl) rfl
theorem tw_505 : (Jvm.Cond.instanceMethod ({ cls := "LeastRue", name := "rue", desc := "(I)I" } : Jvm.MethodName)) ∈ lw_g := tc_3 (List.mem_of_getElem? (i := 25) rfl) rfl
theorem tw_506 : (Jvm.Cond.selects "LeastRue" ({ cls := "LeastRue", name := "rue", desc := "(I)I" } : Jvm.MethodName) ({ cls := "LeastRue", name := "rue", desc := "(I)I" } : Jvm.MethodName)) ∈ lw_g := tc_3 (List.mem_of_getElem? (i := 26) rfl) rfl
theorem tw_507 : (Jvm.Cond.code ({ cls := "LeastRue", name := "rue", desc := "(I)I" } : Jvm.MethodName) prog_1_method_17_code (2 : Nat) (Option.some Jvm.ClassFile.FieldType.int)) ∈ lw_g := tc_3 (List.mem_of_getElem? (i := 27) rfl) rfl
theorem tw_508 : (Jvm.Cond.methodLink "LeastRue" (195 : Nat) ({ cls := "LeastRue$ByEnds", name := "greatestRue", desc := "(I)I" } : Jvm.MethodName)) ∈ lw_g := tc_3 (List.mem_of_getElem? (i := 28) rfl) rfl
theorem tw_509 : (Jvm.Cond.instanceMethod ({ cls := "LeastRue$ByEnds", name := "greatestRue", desc := "(I)I" } : Jvm.MethodName)) ∈ lw_g := tc_3 (List.mem_of_getElem? (i := 29) rfl) rfl
theorem tw_510 : (Jvm.Cond.selects "LeastRue$ByEnds" ({ cls := "LeastRue$ByEnds", name := "greatestRue", desc := "(I)I" } : Jvm.MethodName) ({ cls := "LeastRue$ByEnds", name := "greatestRue", desc := "(I)I" } : Jvm.MethodName)) ∈ lw_g := tc_3 (List.mem_of_getElem? (i := 30) rfl) rfl
theorem tw_511 : (Jvm.Cond.code ({ cls := "LeastRue$ByEnds", name := "greatestRue", desc := "(I)I" } : Jvm.MethodName) prog_3_method_5_code (2 : Nat) (Option.some Jvm.ClassFile.FieldType.int)) ∈ lw_g := tc_3 (List.mem_of_getElem? (i := 31) rfl) rfl
theorem tw_512 : (Jvm.Cond.methodLink "LeastRue$ByEnds" (72 : Nat) ({ cls := "LeastRue$ByEnds", name := "rueInWorst", desc := "(I)I" } : Jvm.MethodName)) ∈ lw_g := tc_3 (List.mem_of_getElem? (i := 32) rfl) rfl
theorem tw_514 : (Jvm.Cond.instanceMethod ({ cls := "LeastRue$ByEnds", name := "rueInWorst", desc := "(I)I" } : Jvm.MethodName)) ∈ lw_g := tc_3 (List.mem_of_getElem? (i := 34) rfl) rfl
theorem tw_515 : (Jvm.Cond.code ({ cls := "LeastRue$ByEnds", name := "rueInWorst", desc := "(I)I" } : Jvm.MethodName) prog_3_method_14_code (6 : Nat) (Option.some Jvm.ClassFile.FieldType.int)) ∈ lw_g := tc_3 (List.mem_of_getElem? (i := 35) rfl) rfl
theorem tw_516 : (Jvm.Cond.methodLink "LeastRue$ByEnds" (110 : Nat) ({ cls := "java/lang/Math", name := "min", desc := "(II)I" } : Jvm.MethodName)) ∈ lw_g := tc_3 (List.mem_of_getElem? (i := 36) rfl) rfl
theorem tw_517 : (Jvm.Cond.static ({ cls := "java/lang/Math", name := "min", desc := "(II)I" } : Jvm.MethodName)) ∈ lw_g := tc_3 (List.mem_of_getElem? (i := 37) rfl) rfl
theorem tw_518 : (Jvm.Cond.code ({ cls := "java/lang/Math", name := "min", desc := "(II)I" } : Jvm.MethodName) prog_13_method_69_code (2 : Nat) (Option.some Jvm.ClassFile.FieldType.int)) ∈ lw_g := tc_3 (List.mem_of_getElem? (i := 38) rfl) rfl
theorem tw_519 : (Jvm.Cond.methodLink "LeastRueLaw" (80 : Nat) ({ cls := "LeastRue", name := "rival", desc := "(I)I" } : Jvm.MethodName)) ∈ lw_g := tc_3 (List.mem_of_getElem? (i := 39) rfl) rfl
theorem tw_520 : (Jvm.Cond.instanceMethod ({ cls := "LeastRue", name := "rival", desc := "(I)I" } : Jvm.MethodName)) ∈ lw_g := tc_3 (List.mem_of_getElem? (i := 40) rfl) rfl
theorem tw_521 : (Jvm.Cond.selects "LeastRue" ({ cls := "LeastRue", name := "rival", desc := "(I)I" } : Jvm.MethodName) ({ cls := "LeastRue", name := "rival", desc := "(I)I" } : Jvm.MethodName)) ∈ lw_g := tc_3 (List.mem_of_getElem? (i := 41) rfl) rfl
theorem tw_522 : (Jvm.Cond.code ({ cls := "LeastRue", name := "rival", desc := "(I)I" } : Jvm.MethodName) prog_1_method_18_code (2 : Nat) (Option.some Jvm.ClassFile.FieldType.int)) ∈ lw_g := tc_3 (List.mem_of_getElem? (i := 42) rfl) rfl
theorem tw_523 : (Jvm.Cond.methodLink "LeastRueLaw" (84 : Nat) ({ cls := "LeastRue", name := "best", desc := "()I" } : Jvm.MethodName)) ∈ lw_g := tc_3 (List.mem_of_getElem? (i := 43) rfl) rfl
theorem tw_524 : (Jvm.Cond.instanceMethod ({ cls := "LeastRue", name := "best", desc := "()I" } : Jvm.MethodName)) ∈ lw_g := tc_3 (List.mem_of_getElem? (i := 44) rfl) rfl
theorem tw_525 : (Jvm.Cond.selects "LeastRue" ({ cls := "LeastRue", name := "best", desc := "()I" } : Jvm.MethodName) ({ cls := "LeastRue", name := "best", desc := "()I" } : Jvm.MethodName)) ∈ lw_g := tc_3 (List.mem_of_getElem? (i := 45) rfl) rfl
theorem tw_526 : (Jvm.Cond.code ({ cls := "LeastRue", name := "best", desc := "()I" } : Jvm.MethodName) prog_1_method_19_code (1 : Nat) (Option.some Jvm.ClassFile.FieldType.int)) ∈ lw_g := tc_3 (List.mem_of_getElem? (i := 46) rfl) rfl
theorem tw_527 : (Jvm.Cond.methodLink "LeastRue" (198 : Nat) ({ cls := "LeastRue$ByEnds", name := "leastRued", desc := "()I" } : Jvm.MethodName)) ∈ lw_g := tc_3 (List.mem_of_getElem? (i := 47) rfl) rfl
theorem tw_528 : (Jvm.Cond.instanceMethod ({ cls := "LeastRue$ByEnds", name := "leastRued", desc := "()I" } : Jvm.MethodName)) ∈ lw_g := tc_3 (List.mem_of_getElem? (i := 48) rfl) rfl
theorem tw_529 : (Jvm.Cond.selects "LeastRue$ByEnds" ({ cls := "LeastRue$ByEnds", name := "leastRued", desc := "()I" } : Jvm.MethodName) ({ cls := "LeastRue$ByEnds", name := "leastRued", desc := "()I" } : Jvm.MethodName)) ∈ lw_g := tc_3 (List.mem_of_getElem? (i := 49) rfl) rfl
theorem tw_530 : (Jvm.Cond.code ({ cls := "LeastRue$ByEnds", name := "leastRued", desc := "()I" } : Jvm.MethodName) prog_3_method_6_code (1 : Nat) (Option.some Jvm.ClassFile.FieldType.int)) ∈ lw_g := tc_3 (List.mem_of_getElem? (i := 50) rfl) rfl
theorem tw_531 : (Jvm.Cond.methodLink "LeastRue$ByEnds" (75 : Nat) ({ cls := "LeastRue$ByEnds", name := "rueAll", desc := "()V" } : Jvm.MethodName)) ∈ lw_g := tc_3 (List.mem_of_getElem? (i := 51) rfl) rfl
theorem tw_533 : (Jvm.Cond.instanceMethod ({ cls := "LeastRue$ByEnds", name := "rueAll", desc := "()V" } : Jvm.MethodName)) ∈ lw_g := tc_3 (List.mem_of_getElem? (i := 53) rfl) rfl
theorem tw_534 : (Jvm.Cond.code ({ cls := "LeastRue$ByEnds", name := "rueAll", desc := "()V" } : Jvm.MethodName) prog_3_method_13_code (2 : Nat) (Option.none : Option Jvm.ClassFile.FieldType)) ∈ lw_g := tc_3 (List.mem_of_getElem? (i := 54) rfl) rfl
theorem tw_535 : (Jvm.Cond.methodLink "LeastRueLaw" (89 : Nat) ({ cls := "LeastRue", name := "many", desc := "()I" } : Jvm.MethodName)) ∈ lw_g := tc_3 (List.mem_of_getElem? (i := 55) rfl) rfl
theorem tw_536 : (Jvm.Cond.instanceMethod ({ cls := "LeastRue", name := "many", desc := "()I" } : Jvm.MethodName)) ∈ lw_g := tc_3 (List.mem_of_getElem? (i := 56) rfl) rfl
theorem tw_537 : (Jvm.Cond.selects "LeastRue" ({ cls := "LeastRue", name := "many", desc := "()I" } : Jvm.MethodName) ({ cls := "LeastRue", name := "many", desc := "()I" } : Jvm.MethodName)) ∈ lw_g := tc_3 (List.mem_of_getElem? (i := 57) rfl) rfl
theorem tw_538 : (Jvm.Cond.code ({ cls := "LeastRue", name := "many", desc := "()I" } : Jvm.MethodName) prog_1_method_20_code (1 : Nat) (Option.some Jvm.ClassFile.FieldType.int)) ∈ lw_g := tc_3 (List.mem_of_getElem? (i := 58) rfl) rfl
theorem tw_539 : (Jvm.Cond.methodLink "LeastRue" (201 : Nat) ({ cls := "LeastRue$ByEnds", name := "howManyLeastRued", desc := "()I" } : Jvm.MethodName)) ∈ lw_g := tc_3 (List.mem_of_getElem? (i := 59) rfl) rfl
theorem tw_540 : (Jvm.Cond.instanceMethod ({ cls := "LeastRue$ByEnds", name := "howManyLeastRued", desc := "()I" } : Jvm.MethodName)) ∈ lw_g := tc_3 (List.mem_of_getElem? (i := 60) rfl) rfl
theorem tw_541 : (Jvm.Cond.selects "LeastRue$ByEnds" ({ cls := "LeastRue$ByEnds", name := "howManyLeastRued", desc := "()I" } : Jvm.MethodName) ({ cls := "LeastRue$ByEnds", name := "howManyLeastRued", desc := "()I" } : Jvm.MethodName)) ∈ lw_g := tc_3 (List.mem_of_getElem? (i := 61) rfl) rfl
theorem tw_542 : (Jvm.Cond.code ({ cls := "LeastRue$ByEnds", name := "howManyLeastRued", desc := "()I" } : Jvm.MethodName) prog_3_method_7_code (4 : Nat) (Option.some Jvm.ClassFile.FieldType.int)) ∈ lw_g := tc_3 (List.mem_of_getElem? (i := 62) rfl) rfl
theorem tw_543 : (Jvm.Cond.methodLink "LeastRue$ByEnds" (78 : Nat) ({ cls := "LeastRue$ByEnds", name := "leastRued", desc := "()I" } : Jvm.MethodName)) ∈ lw_g := tc_3 (List.mem_of_getElem? (i := 63) rfl) rfl
theorem tw_544 : (Jvm.Cond.methodLink "LeastRueLaw" (93 : Nat) ({ cls := "LeastRue", name := "middle", desc := "()I" } : Jvm.MethodName)) ∈ lw_g := tc_3 (List.mem_of_getElem? (i := 64) rfl) rfl
theorem tw_545 : (Jvm.Cond.instanceMethod ({ cls := "LeastRue", name := "middle", desc := "()I" } : Jvm.MethodName)) ∈ lw_g := tc_3 (List.mem_of_getElem? (i := 65) rfl) rfl
theorem tw_546 : (Jvm.Cond.selects "LeastRue" ({ cls := "LeastRue", name := "middle", desc := "()I" } : Jvm.MethodName) ({ cls := "LeastRue", name := "middle", desc := "()I" } : Jvm.MethodName)) ∈ lw_g := tc_3 (List.mem_of_getElem? (i := 66) rfl) rfl
theorem tw_547 : (Jvm.Cond.code ({ cls := "LeastRue", name := "middle", desc := "()I" } : Jvm.MethodName) prog_1_method_21_code (1 : Nat) (Option.some Jvm.ClassFile.FieldType.int)) ∈ lw_g := tc_3 (List.mem_of_getElem? (i := 67) rfl) rfl
theorem tw_548 : (Jvm.Cond.methodLink "LeastRue" (204 : Nat) ({ cls := "LeastRue$ByEnds", name := "cheapestAtMiddles", desc := "()I" } : Jvm.MethodName)) ∈ lw_g := tc_3 (List.mem_of_getElem? (i := 68) rfl) rfl
theorem tw_549 : (Jvm.Cond.instanceMethod ({ cls := "LeastRue$ByEnds", name := "cheapestAtMiddles", desc := "()I" } : Jvm.MethodName)) ∈ lw_g := tc_3 (List.mem_of_getElem? (i := 69) rfl) rfl
theorem tw_550 : (Jvm.Cond.selects "LeastRue$ByEnds" ({ cls := "LeastRue$ByEnds", name := "cheapestAtMiddles", desc := "()I" } : Jvm.MethodName) ({ cls := "LeastRue$ByEnds", name := "cheapestAtMiddles", desc := "()I" } : Jvm.MethodName)) ∈ lw_g := tc_3 (List.mem_of_getElem? (i := 70) rfl) rfl
theorem tw_551 : (Jvm.Cond.code ({ cls := "LeastRue$ByEnds", name := "cheapestAtMiddles", desc := "()I" } : Jvm.MethodName) prog_3_method_8_code (2 : Nat) (Option.some Jvm.ClassFile.FieldType.int)) ∈ lw_g := tc_3 (List.mem_of_getElem? (i := 71) rfl) rfl
theorem tw_552 : (Jvm.Cond.methodLink "LeastRueLaw" (97 : Nat) ({ cls := "LeastRue", name := "hold", desc := "(I)I" } : Jvm.MethodName)) ∈ lw_g := tc_3 (List.mem_of_getElem? (i := 72) rfl) rfl
theorem tw_553 : (Jvm.Cond.instanceMethod ({ cls := "LeastRue", name := "hold", desc := "(I)I" } : Jvm.MethodName)) ∈ lw_g := tc_3 (List.mem_of_getElem? (i := 73) rfl) rfl
theorem tw_554 : (Jvm.Cond.selects "LeastRue" ({ cls := "LeastRue", name := "hold", desc := "(I)I" } : Jvm.MethodName) ({ cls := "LeastRue", name := "hold", desc := "(I)I" } : Jvm.MethodName)) ∈ lw_g := tc_3 (List.mem_of_getElem? (i := 74) rfl) rfl
theorem tw_555 : (Jvm.Cond.code ({ cls := "LeastRue", name := "hold", desc := "(I)I" } : Jvm.MethodName) prog_1_method_22_code (2 : Nat) (Option.some Jvm.ClassFile.FieldType.int)) ∈ lw_g := tc_3 (List.mem_of_getElem? (i := 75) rfl) rfl
theorem tw_556 : (Jvm.Cond.methodLink "LeastRue" (207 : Nat) ({ cls := "LeastRue$ByEnds", name := "howSure", desc := "(I)I" } : Jvm.MethodName)) ∈ lw_g := tc_3 (List.mem_of_getElem? (i := 76) rfl) rfl
theorem tw_557 : (Jvm.Cond.instanceMethod ({ cls := "LeastRue$ByEnds", name := "howSure", desc := "(I)I" } : Jvm.MethodName)) ∈ lw_g := tc_3 (List.mem_of_getElem? (i := 77) rfl) rfl
theorem tw_558 : (Jvm.Cond.selects "LeastRue$ByEnds" ({ cls := "LeastRue$ByEnds", name := "howSure", desc := "(I)I" } : Jvm.MethodName) ({ cls := "LeastRue$ByEnds", name := "howSure", desc := "(I)I" } : Jvm.MethodName)) ∈ lw_g := tc_3 (List.mem_of_getElem? (i := 78) rfl) rfl
theorem tw_559 : (Jvm.Cond.code ({ cls := "LeastRue$ByEnds", name := "howSure", desc := "(I)I" } : Jvm.MethodName) prog_3_method_9_code (3 : Nat) (Option.some Jvm.ClassFile.FieldType.int)) ∈ lw_g := tc_3 (List.mem_of_getElem? (i := 79) rfl) rfl
theorem tw_560 : (Jvm.Cond.methodLink "LeastRue$ByEnds" (82 : Nat) ({ cls := "LeastRue$ByEnds", name := "sortThings", desc := "()V" } : Jvm.MethodName)) ∈ lw_g := tc_3 (List.mem_of_getElem? (i := 80) rfl) rfl
theorem tw_562 : (Jvm.Cond.instanceMethod ({ cls := "LeastRue$ByEnds", name := "sortThings", desc := "()V" } : Jvm.MethodName)) ∈ lw_g := tc_3 (List.mem_of_getElem? (i := 82) rfl) rfl
theorem tw_563 : (Jvm.Cond.code ({ cls := "LeastRue$ByEnds", name := "sortThings", desc := "()V" } : Jvm.MethodName) prog_3_method_17_code (2 : Nat) (Option.none : Option Jvm.ClassFile.FieldType)) ∈ lw_g := tc_3 (List.mem_of_getElem? (i := 83) rfl) rfl
theorem tw_564 : (Jvm.Cond.methodLink "LeastRue$ByEnds" (121 : Nat) ({ cls := "LeastRue$ByEnds", name := "sortByFairestWorldOf", desc := "(I)V" } : Jvm.MethodName)) ∈ lw_g := tc_3 (List.mem_of_getElem? (i := 84) rfl) rfl
theorem tw_566 : (Jvm.Cond.instanceMethod ({ cls := "LeastRue$ByEnds", name := "sortByFairestWorldOf", desc := "(I)V" } : Jvm.MethodName)) ∈ lw_g := tc_3 (List.mem_of_getElem? (i := 86) rfl) rfl
theorem tw_567 : (Jvm.Cond.code ({ cls := "LeastRue$ByEnds", name := "sortByFairestWorldOf", desc := "(I)V" } : Jvm.MethodName) prog_3_method_18_code (7 : Nat) (Option.none : Option Jvm.ClassFile.FieldType)) ∈ lw_g := tc_3 (List.mem_of_getElem? (i := 87) rfl) rfl
theorem tw_568 : (Jvm.Cond.methodLink "LeastRueLaw" (101 : Nat) ({ cls := "LeastRue", name := "dearest", desc := "(II)I" } : Jvm.MethodName)) ∈ lw_g := tc_3 (List.mem_of_getElem? (i := 88) rfl) rfl
theorem tw_569 : (Jvm.Cond.instanceMethod ({ cls := "LeastRue", name := "dearest", desc := "(II)I" } : Jvm.MethodName)) ∈ lw_g := tc_3 (List.mem_of_getElem? (i := 89) rfl) rfl
theorem tw_570 : (Jvm.Cond.selects "LeastRue" ({ cls := "LeastRue", name := "dearest", desc := "(II)I" } : Jvm.MethodName) ({ cls := "LeastRue", name := "dearest", desc := "(II)I" } : Jvm.MethodName)) ∈ lw_g := tc_3 (List.mem_of_getElem? (i := 90) rfl) rfl
theorem tw_571 : (Jvm.Cond.code ({ cls := "LeastRue", name := "dearest", desc := "(II)I" } : Jvm.MethodName) prog_1_method_23_code (3 : Nat) (Option.some Jvm.ClassFile.FieldType.int)) ∈ lw_g := tc_3 (List.mem_of_getElem? (i := 91) rfl) rfl
theorem tw_572 : (Jvm.Cond.methodLink "LeastRue" (210 : Nat) ({ cls := "LeastRue", name := "isFew", desc := "(I)Z" } : Jvm.MethodName)) ∈ lw_g := tc_3 (List.mem_of_getElem? (i := 92) rfl) rfl
theorem tw_573 : (Jvm.Cond.static ({ cls := "LeastRue", name := "isFew", desc := "(I)Z" } : Jvm.MethodName)) ∈ lw_g := tc_3 (List.mem_of_getElem? (i := 93) rfl) rfl
theorem tw_574 : (Jvm.Cond.code ({ cls := "LeastRue", name := "isFew", desc := "(I)Z" } : Jvm.MethodName) prog_1_method_46_code (1 : Nat) (Option.some Jvm.ClassFile.FieldType.boolean)) ∈ lw_g := tc_3 (List.mem_of_getElem? (i := 94) rfl) rfl
theorem tw_575 : (Jvm.Cond.methodLink "LeastRue" (213 : Nat) ({ cls := "LeastRue$ByEnds", name := "dearestCost", desc := "(II)I" } : Jvm.MethodName)) ∈ lw_g := tc_3 (List.mem_of_getElem? (i := 95) rfl) rfl
theorem tw_576 : (Jvm.Cond.instanceMethod ({ cls := "LeastRue$ByEnds", name := "dearestCost", desc := "(II)I" } : Jvm.MethodName)) ∈ lw_g := tc_3 (List.mem_of_getElem? (i := 96) rfl) rfl
theorem tw_577 : (Jvm.Cond.selects "LeastRue$ByEnds" ({ cls := "LeastRue$ByEnds", name := "dearestCost", desc := "(II)I" } : Jvm.MethodName) ({ cls := "LeastRue$ByEnds", name := "dearestCost", desc := "(II)I" } : Jvm.MethodName)) ∈ lw_g := tc_3 (List.mem_of_getElem? (i := 97) rfl) rfl
theorem tw_578 : (Jvm.Cond.code ({ cls := "LeastRue$ByEnds", name := "dearestCost", desc := "(II)I" } : Jvm.MethodName) prog_3_method_10_code (3 : Nat) (Option.some Jvm.ClassFile.FieldType.int)) ∈ lw_g := tc_3 (List.mem_of_getElem? (i := 98) rfl) rfl
theorem tw_579 : (Jvm.Cond.methodLink "LeastRue$ByEnds" (94 : Nat) ({ cls := "LeastRue$ByEnds", name := "widestGaps", desc := "(II)I" } : Jvm.MethodName)) ∈ lw_g := tc_3 (List.mem_of_getElem? (i := 99) rfl) rfl
theorem tw_581 : (Jvm.Cond.instanceMethod ({ cls := "LeastRue$ByEnds", name := "widestGaps", desc := "(II)I" } : Jvm.MethodName)) ∈ lw_g := tc_3 (List.mem_of_getElem? (i := 101) rfl) rfl
theorem tw_582 : (Jvm.Cond.code ({ cls := "LeastRue$ByEnds", name := "widestGaps", desc := "(II)I" } : Jvm.MethodName) prog_3_method_15_code (7 : Nat) (Option.some Jvm.ClassFile.FieldType.int)) ∈ lw_g := tc_3 (List.mem_of_getElem? (i := 102) rfl) rfl
theorem tw_583 : (Jvm.Cond.methodLink "LeastRue$ByEnds" (115 : Nat) ({ cls := "LeastRue$ByEnds", name := "widestOf", desc := "(I)I" } : Jvm.MethodName)) ∈ lw_g := tc_3 (List.mem_of_getElem? (i := 103) rfl) rfl
theorem tw_585 : (Jvm.Cond.instanceMethod ({ cls := "LeastRue$ByEnds", name := "widestOf", desc := "(I)I" } : Jvm.MethodName)) ∈ lw_g := tc_3 (List.mem_of_getElem? (i := 105) rfl) rfl
theorem tw_586 : (Jvm.Cond.code ({ cls := "LeastRue$ByEnds", name := "widestOf", desc := "(I)I" } : Jvm.MethodName) prog_3_method_16_code (4 : Nat) (Option.some Jvm.ClassFile.FieldType.int)) ∈ lw_g := tc_3 (List.mem_of_getElem? (i := 106) rfl) rfl
theorem tw_587 : (Jvm.Cond.methodLink "LeastRueLaw" (105 : Nat) ({ cls := "LeastRue", name := "few", desc := "(I)I" } : Jvm.MethodName)) ∈ lw_g := tc_3 (List.mem_of_getElem? (i := 107) rfl) rfl
theorem tw_588 : (Jvm.Cond.instanceMethod ({ cls := "LeastRue", name := "few", desc := "(I)I" } : Jvm.MethodName)) ∈ lw_g := tc_3 (List.mem_of_getElem? (i := 108) rfl) rfl
theorem tw_589 : (Jvm.Cond.selects "LeastRue" ({ cls := "LeastRue", name := "few", desc := "(I)I" } : Jvm.MethodName) ({ cls := "LeastRue", name := "few", desc := "(I)I" } : Jvm.MethodName)) ∈ lw_g := tc_3 (List.mem_of_getElem? (i := 109) rfl) rfl
theorem tw_590 : (Jvm.Cond.code ({ cls := "LeastRue", name := "few", desc := "(I)I" } : Jvm.MethodName) prog_1_method_24_code (2 : Nat) (Option.some Jvm.ClassFile.FieldType.int)) ∈ lw_g := tc_3 (List.mem_of_getElem? (i := 110) rfl) rfl
theorem tw_591 : (Jvm.Cond.methodLink "LeastRue" (216 : Nat) ({ cls := "LeastRue$ByEnds", name := "leastDear", desc := "(I)I" } : Jvm.MethodName)) ∈ lw_g := tc_3 (List.mem_of_getElem? (i := 111) rfl) rfl
theorem tw_592 : (Jvm.Cond.instanceMethod ({ cls := "LeastRue$ByEnds", name := "leastDear", desc := "(I)I" } : Jvm.MethodName)) ∈ lw_g := tc_3 (List.mem_of_getElem? (i := 112) rfl) rfl
theorem tw_593 : (Jvm.Cond.selects "LeastRue$ByEnds" ({ cls := "LeastRue$ByEnds", name := "leastDear", desc := "(I)I" } : Jvm.MethodName) ({ cls := "LeastRue$ByEnds", name := "leastDear", desc := "(I)I" } : Jvm.MethodName)) ∈ lw_g := tc_3 (List.mem_of_getElem? (i := 113) rfl) rfl
theorem tw_594 : (Jvm.Cond.code ({ cls := "LeastRue$ByEnds", name := "leastDear", desc := "(I)I" } : Jvm.MethodName) prog_3_method_11_code (3 : Nat) (Option.some Jvm.ClassFile.FieldType.int)) ∈ lw_g := tc_3 (List.mem_of_getElem? (i := 114) rfl) rfl
theorem tw_595 : (Jvm.Cond.methodLink "LeastRueLaw" (109 : Nat) ({ cls := "LeastRue", name := "costIn", desc := "(II)I" } : Jvm.MethodName)) ∈ lw_g := tc_3 (List.mem_of_getElem? (i := 115) rfl) rfl
theorem tw_596 : (Jvm.Cond.instanceMethod ({ cls := "LeastRue", name := "costIn", desc := "(II)I" } : Jvm.MethodName)) ∈ lw_g := tc_3 (List.mem_of_getElem? (i := 116) rfl) rfl
theorem tw_597 : (Jvm.Cond.selects "LeastRue" ({ cls := "LeastRue", name := "costIn", desc := "(II)I" } : Jvm.MethodName) ({ cls := "LeastRue", name := "costIn", desc := "(II)I" } : Jvm.MethodName)) ∈ lw_g := tc_3 (List.mem_of_getElem? (i := 117) rfl) rfl
theorem tw_598 : (Jvm.Cond.code ({ cls := "LeastRue", name := "costIn", desc := "(II)I" } : Jvm.MethodName) prog_1_method_25_code (3 : Nat) (Option.some Jvm.ClassFile.FieldType.int)) ∈ lw_g := tc_3 (List.mem_of_getElem? (i := 118) rfl) rfl
theorem tw_599 : (Jvm.Cond.methodLink "LeastRue" (219 : Nat) ({ cls := "LeastRue$Bench", name := "costInWorld", desc := "(II)I" } : Jvm.MethodName)) ∈ lw_g := tc_3 (List.mem_of_getElem? (i := 119) rfl) rfl
theorem tw_600 : (Jvm.Cond.instanceMethod ({ cls := "LeastRue$Bench", name := "costInWorld", desc := "(II)I" } : Jvm.MethodName)) ∈ lw_g := tc_3 (List.mem_of_getElem? (i := 120) rfl) rfl
theorem tw_601 : (Jvm.Cond.selects "LeastRue$Bench" ({ cls := "LeastRue$Bench", name := "costInWorld", desc := "(II)I" } : Jvm.MethodName) ({ cls := "LeastRue$Bench", name := "costInWorld", desc := "(II)I" } : Jvm.MethodName)) ∈ lw_g := tc_3 (List.mem_of_getElem? (i := 121) rfl) rfl
theorem tw_602 : (Jvm.Cond.code ({ cls := "LeastRue$Bench", name := "costInWorld", desc := "(II)I" } : Jvm.MethodName) prog_2_method_5_code (5 : Nat) (Option.some Jvm.ClassFile.FieldType.int)) ∈ lw_g := tc_3 (List.mem_of_getElem? (i := 122) rfl) rfl
theorem tw_603 : (Jvm.Cond.methodLink "LeastRueLaw" (113 : Nat) ({ cls := "LeastRue", name := "cheapestIn", desc := "(I)I" } : Jvm.MethodName)) ∈ lw_g := tc_3 (List.mem_of_getElem? (i := 123) rfl) rfl
theorem tw_604 : (Jvm.Cond.instanceMethod ({ cls := "LeastRue", name := "cheapestIn", desc := "(I)I" } : Jvm.MethodName)) ∈ lw_g := tc_3 (List.mem_of_getElem? (i := 124) rfl) rfl
theorem tw_605 : (Jvm.Cond.selects "LeastRue" ({ cls := "LeastRue", name := "cheapestIn", desc := "(I)I" } : Jvm.MethodName) ({ cls := "LeastRue", name := "cheapestIn", desc := "(I)I" } : Jvm.MethodName)) ∈ lw_g := tc_3 (List.mem_of_getElem? (i := 125) rfl) rfl
theorem tw_606 : (Jvm.Cond.code ({ cls := "LeastRue", name := "cheapestIn", desc := "(I)I" } : Jvm.MethodName) prog_1_method_26_code (2 : Nat) (Option.some Jvm.ClassFile.FieldType.int)) ∈ lw_g := tc_3 (List.mem_of_getElem? (i := 126) rfl) rfl
theorem tw_607 : (Jvm.Cond.methodLink "LeastRue" (222 : Nat) ({ cls := "LeastRue$ByWorlds", name := "cheapestThere", desc := "(I)I" } : Jvm.MethodName)) ∈ lw_g := tc_3 (List.mem_of_getElem? (i := 127) rfl) rfl
theorem tw_608 : (Jvm.Cond.instanceMethod ({ cls := "LeastRue$ByWorlds", name := "cheapestThere", desc := "(I)I" } : Jvm.MethodName)) ∈ lw_g := tc_3 (List.mem_of_getElem? (i := 128) rfl) rfl
theorem tw_609 : (Jvm.Cond.selects "LeastRue$ByWorlds" ({ cls := "LeastRue$ByWorlds", name := "cheapestThere", desc := "(I)I" } : Jvm.MethodName) ({ cls := "LeastRue$ByWorlds", name := "cheapestThere", desc := "(I)I" } : Jvm.MethodName)) ∈ lw_g := tc_3 (List.mem_of_getElem? (i := 129) rfl) rfl
theorem tw_610 : (Jvm.Cond.code ({ cls := "LeastRue$ByWorlds", name := "cheapestThere", desc := "(I)I" } : Jvm.MethodName) prog_4_method_2_code (3 : Nat) (Option.some Jvm.ClassFile.FieldType.int)) ∈ lw_g := tc_3 (List.mem_of_getElem? (i := 130) rfl) rfl
theorem tw_611 : (Jvm.Cond.methodLink "LeastRue$ByWorlds" (38 : Nat) ({ cls := "LeastRue$Sums", name := "fill", desc := "([I)V" } : Jvm.MethodName)) ∈ lw_g := tc_3 (List.mem_of_getElem? (i := 131) rfl) rfl
theorem tw_612 : (Jvm.Cond.methodLink "LeastRue$ByWorlds" (51 : Nat) ({ cls := "LeastRue$Sums", name := "total", desc := "(I)I" } : Jvm.MethodName)) ∈ lw_g := tc_3 (List.mem_of_getElem? (i := 132) rfl) rfl
theorem tw_613 : (Jvm.Cond.methodLinkNest "LeastRue$ByWorlds" (55 : Nat) ({ cls := "LeastRue", name := "firstLeast", desc := "([II)I" } : Jvm.MethodName) "LeastRue") ∈ lw_tbl := tn_3 (List.mem_of_getElem? (i := 133) rfl)
theorem tw_614 : (Jvm.Cond.methodLink "LeastRueLaw" (117 : Nat) ({ cls := "LeastRue", name := "rueOf", desc := "(I)I" } : Jvm.MethodName)) ∈ lw_g := tc_3 (List.mem_of_getElem? (i := 134) rfl) rfl
theorem tw_615 : (Jvm.Cond.instanceMethod ({ cls := "LeastRue", name := "rueOf", desc := "(I)I" } : Jvm.MethodName)) ∈ lw_g := tc_3 (List.mem_of_getElem? (i := 135) rfl) rfl
theorem tw_616 : (Jvm.Cond.selects "LeastRue" ({ cls := "LeastRue", name := "rueOf", desc := "(I)I" } : Jvm.MethodName) ({ cls := "LeastRue", name := "rueOf", desc := "(I)I" } : Jvm.MethodName)) ∈ lw_g := tc_3 (List.mem_of_getElem? (i := 136) rfl) rfl
theorem tw_617 : (Jvm.Cond.code ({ cls := "LeastRue", name := "rueOf", desc := "(I)I" } : Jvm.MethodName) prog_1_method_27_code (2 : Nat) (Option.some Jvm.ClassFile.FieldType.int)) ∈ lw_g := tc_3 (List.mem_of_getElem? (i := 137) rfl) rfl
theorem tw_618 : (Jvm.Cond.methodLink "LeastRue" (225 : Nat) ({ cls := "LeastRue$ByWorlds", name := "greatestRue", desc := "(I)I" } : Jvm.MethodName)) ∈ lw_g := tc_3 (List.mem_of_getElem? (i := 138) rfl) rfl
theorem tw_619 : (Jvm.Cond.instanceMethod ({ cls := "LeastRue$ByWorlds", name := "greatestRue", desc := "(I)I" } : Jvm.MethodName)) ∈ lw_g := tc_3 (List.mem_of_getElem? (i := 139) rfl) rfl
theorem tw_620 : (Jvm.Cond.selects "LeastRue$ByWorlds" ({ cls := "LeastRue$ByWorlds", name := "greatestRue", desc := "(I)I" } : Jvm.MethodName) ({ cls := "LeastRue$ByWorlds", name := "greatestRue", desc := "(I)I" } : Jvm.MethodName)) ∈ lw_g := tc_3 (List.mem_of_getElem? (i := 140) rfl) rfl
theorem tw_621 : (Jvm.Cond.code ({ cls := "LeastRue$ByWorlds", name := "greatestRue", desc := "(I)I" } : Jvm.MethodName) prog_4_method_3_code (2 : Nat) (Option.some Jvm.ClassFile.FieldType.int)) ∈ lw_g := tc_3 (List.mem_of_getElem? (i := 141) rfl) rfl
theorem tw_622 : (Jvm.Cond.methodLink "LeastRue$ByWorlds" (59 : Nat) ({ cls := "LeastRue$ByWorlds", name := "rueAll", desc := "()V" } : Jvm.MethodName)) ∈ lw_g := tc_3 (List.mem_of_getElem? (i := 142) rfl) rfl
theorem tw_624 : (Jvm.Cond.instanceMethod ({ cls := "LeastRue$ByWorlds", name := "rueAll", desc := "()V" } : Jvm.MethodName)) ∈ lw_g := tc_3 (List.mem_of_getElem? (i := 144) rfl) rfl
theorem tw_625 : (Jvm.Cond.code ({ cls := "LeastRue$ByWorlds", name := "rueAll", desc := "()V" } : Jvm.MethodName) prog_4_method_5_code (2 : Nat) (Option.none : Option Jvm.ClassFile.FieldType)) ∈ lw_g := tc_3 (List.mem_of_getElem? (i := 145) rfl) rfl
theorem tw_626 : (Jvm.Cond.methodLink "LeastRue$ByWorlds" (62 : Nat) ({ cls := "java/util/Arrays", name := "fill", desc := "([II)V" } : Jvm.MethodName)) ∈ lw_g := tc_3 (List.mem_of_getElem? (i := 146) rfl) rfl
theorem tw_627 : (Jvm.Cond.methodLink "LeastRue$ByWorlds" (67 : Nat) ({ cls := "LeastRue$Bench", name := "hasWorld", desc := "(I)Z" } : Jvm.MethodName)) ∈ lw_g := tc_3 (List.mem_of_getElem? (i := 147) rfl) rfl
theorem tw_628 : (Jvm.Cond.methodLink "LeastRue$ByWorlds" (71 : Nat) ({ cls := "LeastRue$ByWorlds", name := "rueThere", desc := "(I)V" } : Jvm.MethodName)) ∈ lw_g := tc_3 (List.mem_of_getElem? (i := 148) rfl) rfl
theorem tw_630 : (Jvm.Cond.instanceMethod ({ cls := "LeastRue$ByWorlds", name := "rueThere", desc := "(I)V" } : Jvm.MethodName)) ∈ lw_g := tc_3 (List.mem_of_getElem? (i := 150) rfl) rfl
theorem tw_631 : (Jvm.Cond.code ({ cls := "LeastRue$ByWorlds", name := "rueThere", desc := "(I)V" } : Jvm.MethodName) prog_4_method_6_code (4 : Nat) (Option.none : Option Jvm.ClassFile.FieldType)) ∈ lw_g := tc_3 (List.mem_of_getElem? (i := 151) rfl) rfl
theorem tw_632 : (Jvm.Cond.methodLink "LeastRue$ByWorlds" (75 : Nat) ({ cls := "LeastRue$ByWorlds", name := "cheapestThere", desc := "(I)I" } : Jvm.MethodName)) ∈ lw_g := tc_3 (List.mem_of_getElem? (i := 152) rfl) rfl
theorem tw_633 : (Jvm.Cond.methodLink "LeastRue$ByWorlds" (78 : Nat) ({ cls := "java/lang/Math", name := "max", desc := "(II)I" } : Jvm.MethodName)) ∈ lw_g := tc_3 (List.mem_of_getElem? (i := 153) rfl) rfl
theorem tw_634 : (Jvm.Cond.static ({ cls := "java/lang/Math", name := "max", desc := "(II)I" } : Jvm.MethodName)) ∈ lw_g := tc_3 (List.mem_of_getElem? (i := 154) rfl) rfl
theorem tw_635 : (Jvm.Cond.code ({ cls := "java/lang/Math", name := "max", desc := "(II)I" } : Jvm.MethodName) prog_13_method_65_code (2 : Nat) (Option.some Jvm.ClassFile.FieldType.int)) ∈ lw_g := tc_3 (List.mem_of_getElem? (i := 155) rfl) rfl
theorem tw_636 : (Jvm.Cond.methodLink "LeastRueLaw" (121 : Nat) ({ cls := "LeastRue", name := "bestOf", desc := "()I" } : Jvm.MethodName)) ∈ lw_g := tc_3 (List.mem_of_getElem? (i := 156) rfl) rfl
theorem tw_637 : (Jvm.Cond.instanceMethod ({ cls := "LeastRue", name := "bestOf", desc := "()I" } : Jvm.MethodName)) ∈ lw_g := tc_3 (List.mem_of_getElem? (i := 157) rfl) rfl
theorem tw_638 : (Jvm.Cond.selects "LeastRue" ({ cls := "LeastRue", name := "bestOf", desc := "()I" } : Jvm.MethodName) ({ cls := "LeastRue", name := "bestOf", desc := "()I" } : Jvm.MethodName)) ∈ lw_g := tc_3 (List.mem_of_getElem? (i := 158) rfl) rfl
theorem tw_639 : (Jvm.Cond.code ({ cls := "LeastRue", name := "bestOf", desc := "()I" } : Jvm.MethodName) prog_1_method_28_code (1 : Nat) (Option.some Jvm.ClassFile.FieldType.int)) ∈ lw_g := tc_3 (List.mem_of_getElem? (i := 159) rfl) rfl
theorem tw_640 : (Jvm.Cond.methodLink "LeastRue" (226 : Nat) ({ cls := "LeastRue$ByWorlds", name := "leastRued", desc := "()I" } : Jvm.MethodName)) ∈ lw_g := tc_3 (List.mem_of_getElem? (i := 160) rfl) rfl
theorem tw_641 : (Jvm.Cond.instanceMethod ({ cls := "LeastRue$ByWorlds", name := "leastRued", desc := "()I" } : Jvm.MethodName)) ∈ lw_g := tc_3 (List.mem_of_getElem? (i := 161) rfl) rfl
theorem tw_642 : (Jvm.Cond.selects "LeastRue$ByWorlds" ({ cls := "LeastRue$ByWorlds", name := "leastRued", desc := "()I" } : Jvm.MethodName) ({ cls := "LeastRue$ByWorlds", name := "leastRued", desc := "()I" } : Jvm.MethodName)) ∈ lw_g := tc_3 (List.mem_of_getElem? (i := 162) rfl) rfl
theorem tw_643 : (Jvm.Cond.code ({ cls := "LeastRue$ByWorlds", name := "leastRued", desc := "()I" } : Jvm.MethodName) prog_4_method_4_code (1 : Nat) (Option.some Jvm.ClassFile.FieldType.int)) ∈ lw_g := tc_3 (List.mem_of_getElem? (i := 163) rfl) rfl
theorem tw_644 : (Jvm.Cond.methodLink "LeastRueLaw" (125 : Nat) ({ cls := "LeastRue", name := "front", desc := "(III)I" } : Jvm.MethodName)) ∈ lw_g := tc_3 (List.mem_of_getElem? (i := 164) rfl) rfl
theorem tw_645 : (Jvm.Cond.instanceMethod ({ cls := "LeastRue", name := "front", desc := "(III)I" } : Jvm.MethodName)) ∈ lw_g := tc_3 (List.mem_of_getElem? (i := 165) rfl) rfl
theorem tw_646 : (Jvm.Cond.selects "LeastRue" ({ cls := "LeastRue", name := "front", desc := "(III)I" } : Jvm.MethodName) ({ cls := "LeastRue", name := "front", desc := "(III)I" } : Jvm.MethodName)) ∈ lw_g := tc_3 (List.mem_of_getElem? (i := 166) rfl) rfl
theorem tw_647 : (Jvm.Cond.code ({ cls := "LeastRue", name := "front", desc := "(III)I" } : Jvm.MethodName) prog_1_method_29_code (4 : Nat) (Option.some Jvm.ClassFile.FieldType.int)) ∈ lw_g := tc_3 (List.mem_of_getElem? (i := 167) rfl) rfl
theorem tw_648 : (Jvm.Cond.methodLink "LeastRue" (227 : Nat) ({ cls := "LeastRue$TwoWorlds", name := "look", desc := "(II)V" } : Jvm.MethodName)) ∈ lw_g := tc_3 (List.mem_of_getElem? (i := 168) rfl) rfl
theorem tw_649 : (Jvm.Cond.instanceMethod ({ cls := "LeastRue$TwoWorlds", name := "look", desc := "(II)V" } : Jvm.MethodName)) ∈ lw_g := tc_3 (List.mem_of_getElem? (i := 169) rfl) rfl
theorem tw_650 : (Jvm.Cond.selects "LeastRue$TwoWorlds" ({ cls := "LeastRue$TwoWorlds", name := "look", desc := "(II)V" } : Jvm.MethodName) ({ cls := "LeastRue$TwoWorlds", name := "look", desc := "(II)V" } : Jvm.MethodName)) ∈ lw_g := tc_3 (List.mem_of_getElem? (i := 170) rfl) rfl
theorem tw_651 : (Jvm.Cond.code ({ cls := "LeastRue$TwoWorlds", name := "look", desc := "(II)V" } : Jvm.MethodName) prog_9_method_2_code (3 : Nat) (Option.none : Option Jvm.ClassFile.FieldType)) ∈ lw_g := tc_3 (List.mem_of_getElem? (i := 171) rfl) rfl
theorem tw_652 : (Jvm.Cond.methodLink "LeastRue$TwoWorlds" (33 : Nat) ({ cls := "LeastRue$TwoWorlds", name := "fillRues", desc := "([II)V" } : Jvm.MethodName)) ∈ lw_g := tc_3 (List.mem_of_getElem? (i := 172) rfl) rfl
theorem tw_654 : (Jvm.Cond.instanceMethod ({ cls := "LeastRue$TwoWorlds", name := "fillRues", desc := "([II)V" } : Jvm.MethodName)) ∈ lw_g := tc_3 (List.mem_of_getElem? (i := 174) rfl) rfl
theorem tw_655 : (Jvm.Cond.code ({ cls := "LeastRue$TwoWorlds", name := "fillRues", desc := "([II)V" } : Jvm.MethodName) prog_9_method_6_code (6 : Nat) (Option.none : Option Jvm.ClassFile.FieldType)) ∈ lw_g := tc_3 (List.mem_of_getElem? (i := 175) rfl) rfl
theorem tw_656 : (Jvm.Cond.methodLink "LeastRue$TwoWorlds" (74 : Nat) ({ cls := "LeastRue$Sums", name := "fill", desc := "([I)V" } : Jvm.MethodName)) ∈ lw_g := tc_3 (List.mem_of_getElem? (i := 176) rfl) rfl
theorem tw_657 : (Jvm.Cond.methodLink "LeastRue$TwoWorlds" (81 : Nat) ({ cls := "LeastRue$Sums", name := "total", desc := "(I)I" } : Jvm.MethodName)) ∈ lw_g := tc_3 (List.mem_of_getElem? (i := 177) rfl) rfl
theorem tw_658 : (Jvm.Cond.methodLinkNest "LeastRue$TwoWorlds" (84 : Nat) ({ cls := "LeastRue", name := "firstLeast", desc := "([II)I" } : Jvm.MethodName) "LeastRue") ∈ lw_tbl := tn_3 (List.mem_of_getElem? (i := 178) rfl)
theorem tw_659 : (Jvm.Cond.methodLink "LeastRue" (230 : Nat) ({ cls := "LeastRue$TwoWorlds", name := "pairsOnFront", desc := "()I" } : Jvm.MethodName)) ∈ lw_g := tc_3 (List.mem_of_getElem? (i := 179) rfl) rfl
theorem tw_660 : (Jvm.Cond.instanceMethod ({ cls := "LeastRue$TwoWorlds", name := "pairsOnFront", desc := "()I" } : Jvm.MethodName)) ∈ lw_g := tc_3 (List.mem_of_getElem? (i := 180) rfl) rfl
theorem tw_661 : (Jvm.Cond.selects "LeastRue$TwoWorlds" ({ cls := "LeastRue$TwoWorlds", name := "pairsOnFront", desc := "()I" } : Jvm.MethodName) ({ cls := "LeastRue$TwoWorlds", name := "pairsOnFront", desc := "()I" } : Jvm.MethodName)) ∈ lw_g := tc_3 (List.mem_of_getElem? (i := 181) rfl) rfl
theorem tw_662 : (Jvm.Cond.code ({ cls := "LeastRue$TwoWorlds", name := "pairsOnFront", desc := "()I" } : Jvm.MethodName) prog_9_method_3_code (3 : Nat) (Option.some Jvm.ClassFile.FieldType.int)) ∈ lw_g := tc_3 (List.mem_of_getElem? (i := 182) rfl) rfl
theorem tw_663 : (Jvm.Cond.constant "LeastRue$TwoWorlds" (39 : Nat) (2147483647 : Int32)) ∈ lw_g := tc_3 (List.mem_of_getElem? (i := 183) rfl) rfl
theorem tw_664 : (Jvm.Cond.methodLink "LeastRue$TwoWorlds" (40 : Nat) ({ cls := "LeastRue$TwoWorlds", name := "leftmostBelow", desc := "(I)I" } : Jvm.MethodName)) ∈ lw_g := tc_3 (List.mem_of_getElem? (i := 184) rfl) rfl
theorem tw_666 : (Jvm.Cond.instanceMethod ({ cls := "LeastRue$TwoWorlds", name := "leftmostBelow", desc := "(I)I" } : Jvm.MethodName)) ∈ lw_g := tc_3 (List.mem_of_getElem? (i := 186) rfl) rfl
theorem tw_667 : (Jvm.Cond.code ({ cls := "LeastRue$TwoWorlds", name := "leftmostBelow", desc := "(I)I" } : Jvm.MethodName) prog_9_method_7_code (4 : Nat) (Option.some Jvm.ClassFile.FieldType.int)) ∈ lw_g := tc_3 (List.mem_of_getElem? (i := 187) rfl) rfl
theorem tw_668 : (Jvm.Cond.methodLink "LeastRue$TwoWorlds" (88 : Nat) ({ cls := "LeastRue$TwoWorlds", name := "comesBefore", desc := "(II[I[I)Z" } : Jvm.MethodName)) ∈ lw_g := tc_3 (List.mem_of_getElem? (i := 188) rfl) rfl
theorem tw_669 : (Jvm.Cond.static ({ cls := "LeastRue$TwoWorlds", name := "comesBefore", desc := "(II[I[I)Z" } : Jvm.MethodName)) ∈ lw_g := tc_3 (List.mem_of_getElem? (i := 189) rfl) rfl
theorem tw_670 : (Jvm.Cond.code ({ cls := "LeastRue$TwoWorlds", name := "comesBefore", desc := "(II[I[I)Z" } : Jvm.MethodName) prog_9_method_9_code (4 : Nat) (Option.some Jvm.ClassFile.FieldType.boolean)) ∈ lw_g := tc_3 (List.mem_of_getElem? (i := 190) rfl) rfl
theorem tw_671 : (Jvm.Cond.methodLink "LeastRue" (233 : Nat) ({ cls := "LeastRue$TwoWorlds", name := "pairOnFront", desc := "(I)I" } : Jvm.MethodName)) ∈ lw_g := tc_3 (List.mem_of_getElem? (i := 191) rfl) rfl
theorem tw_672 : (Jvm.Cond.instanceMethod ({ cls := "LeastRue$TwoWorlds", name := "pairOnFront", desc := "(I)I" } : Jvm.MethodName)) ∈ lw_g := tc_3 (List.mem_of_getElem? (i := 192) rfl) rfl
theorem tw_673 : (Jvm.Cond.selects "LeastRue$TwoWorlds" ({ cls := "LeastRue$TwoWorlds", name := "pairOnFront", desc := "(I)I" } : Jvm.MethodName) ({ cls := "LeastRue$TwoWorlds", name := "pairOnFront", desc := "(I)I" } : Jvm.MethodName)) ∈ lw_g := tc_3 (List.mem_of_getElem? (i := 193) rfl) rfl
theorem tw_674 : (Jvm.Cond.code ({ cls := "LeastRue$TwoWorlds", name := "pairOnFront", desc := "(I)I" } : Jvm.MethodName) prog_9_method_4_code (4 : Nat) (Option.some Jvm.ClassFile.FieldType.int)) ∈ lw_g := tc_3 (List.mem_of_getElem? (i := 194) rfl) rfl
theorem tw_675 : (Jvm.Cond.methodLink "LeastRueLaw" (129 : Nat) ({ cls := "LeastRue", name := "lots", desc := "(III)J" } : Jvm.MethodName)) ∈ lw_g := tc_3 (List.mem_of_getElem? (i := 195) rfl) rfl
theorem tw_676 : (Jvm.Cond.instanceMethod ({ cls := "LeastRue", name := "lots", desc := "(III)J" } : Jvm.MethodName)) ∈ lw_g := tc_3 (List.mem_of_getElem? (i := 196) rfl) rfl
theorem tw_677 : (Jvm.Cond.selects "LeastRue" ({ cls := "LeastRue", name := "lots", desc := "(III)J" } : Jvm.MethodName) ({ cls := "LeastRue", name := "lots", desc := "(III)J" } : Jvm.MethodName)) ∈ lw_g := tc_3 (List.mem_of_getElem? (i := 197) rfl) rfl
theorem tw_678 : (Jvm.Cond.code ({ cls := "LeastRue", name := "lots", desc := "(III)J" } : Jvm.MethodName) prog_1_method_30_code (4 : Nat) (Option.some Jvm.ClassFile.FieldType.long)) ∈ lw_g := tc_3 (List.mem_of_getElem? (i := 198) rfl) rfl
theorem tw_679 : (Jvm.Cond.constantLong "LeastRue" (236 : Nat) (-1 : Int64)) ∈ lw_g := tc_3 (List.mem_of_getElem? (i := 199) rfl) rfl
theorem tw_680 : (Jvm.Cond.constantLong "LeastRue" (238 : Nat) (-2 : Int64)) ∈ lw_g := tc_3 (List.mem_of_getElem? (i := 200) rfl) rfl
theorem tw_681 : (Jvm.Cond.constantLong "LeastRue" (240 : Nat) (-6 : Int64)) ∈ lw_g := tc_3 (List.mem_of_getElem? (i := 201) rfl) rfl
theorem tw_682 : (Jvm.Cond.methodLink "LeastRue" (242 : Nat) ({ cls := "LeastRue$TwoWorlds", name := "draw", desc := "()V" } : Jvm.MethodName)) ∈ lw_g := tc_3 (List.mem_of_getElem? (i := 202) rfl) rfl
theorem tw_683 : (Jvm.Cond.instanceMethod ({ cls := "LeastRue$TwoWorlds", name := "draw", desc := "()V" } : Jvm.MethodName)) ∈ lw_g := tc_3 (List.mem_of_getElem? (i := 203) rfl) rfl
theorem tw_684 : (Jvm.Cond.selects "LeastRue$TwoWorlds" ({ cls := "LeastRue$TwoWorlds", name := "draw", desc := "()V" } : Jvm.MethodName) ({ cls := "LeastRue$TwoWorlds", name := "draw", desc := "()V" } : Jvm.MethodName)) ∈ lw_g := tc_3 (List.mem_of_getElem? (i := 204) rfl) rfl
theorem tw_685 : (Jvm.Cond.code ({ cls := "LeastRue$TwoWorlds", name := "draw", desc := "()V" } : Jvm.MethodName) prog_9_method_5_code (5 : Nat) (Option.none : Option Jvm.ClassFile.FieldType)) ∈ lw_g := tc_3 (List.mem_of_getElem? (i := 205) rfl) rfl
theorem tw_686 : (Jvm.Cond.methodLink "LeastRue$TwoWorlds" (44 : Nat) ({ cls := "LeastRue$TwoWorlds", name := "leastBy", desc := "([I[I)I" } : Jvm.MethodName)) ∈ lw_g := tc_3 (List.mem_of_getElem? (i := 206) rfl) rfl
theorem tw_688 : (Jvm.Cond.instanceMethod ({ cls := "LeastRue$TwoWorlds", name := "leastBy", desc := "([I[I)I" } : Jvm.MethodName)) ∈ lw_g := tc_3 (List.mem_of_getElem? (i := 208) rfl) rfl
theorem tw_689 : (Jvm.Cond.code ({ cls := "LeastRue$TwoWorlds", name := "leastBy", desc := "([I[I)I" } : Jvm.MethodName) prog_9_method_8_code (5 : Nat) (Option.some Jvm.ClassFile.FieldType.int)) ∈ lw_g := tc_3 (List.mem_of_getElem? (i := 209) rfl) rfl
theorem tw_690 : (Jvm.Cond.methodLink "LeastRue$TwoWorlds" (61 : Nat) ({ cls := "LeastRue$TwoWorlds", name := "lowestUnder", desc := "(II)I" } : Jvm.MethodName)) ∈ lw_g := tc_3 (List.mem_of_getElem? (i := 210) rfl) rfl
theorem tw_692 : (Jvm.Cond.instanceMethod ({ cls := "LeastRue$TwoWorlds", name := "lowestUnder", desc := "(II)I" } : Jvm.MethodName)) ∈ lw_g := tc_3 (List.mem_of_getElem? (i := 212) rfl) rfl
theorem tw_693 : (Jvm.Cond.code ({ cls := "LeastRue$TwoWorlds", name := "lowestUnder", desc := "(II)I" } : Jvm.MethodName) prog_9_method_10_code (13 : Nat) (Option.some Jvm.ClassFile.FieldType.int)) ∈ lw_g := tc_3 (List.mem_of_getElem? (i := 213) rfl) rfl
theorem tw_694 : (Jvm.Cond.methodLink "LeastRue$TwoWorlds" (65 : Nat) ({ cls := "LeastRue$TwoWorlds", name := "meet", desc := "(II)V" } : Jvm.MethodName)) ∈ lw_g := tc_3 (List.mem_of_getElem? (i := 214) rfl) rfl
theorem tw_696 : (Jvm.Cond.instanceMethod ({ cls := "LeastRue$TwoWorlds", name := "meet", desc := "(II)V" } : Jvm.MethodName)) ∈ lw_g := tc_3 (List.mem_of_getElem? (i := 216) rfl) rfl
theorem tw_697 : (Jvm.Cond.code ({ cls := "LeastRue$TwoWorlds", name := "meet", desc := "(II)V" } : Jvm.MethodName) prog_9_method_11_code (9 : Nat) (Option.none : Option Jvm.ClassFile.FieldType)) ∈ lw_g := tc_3 (List.mem_of_getElem? (i := 217) rfl) rfl
theorem tw_698 : (Jvm.Cond.methodLink "LeastRue$TwoWorlds" (92 : Nat) ({ cls := "LeastRue$TwoWorlds", name := "commonDivisor", desc := "(JJ)J" } : Jvm.MethodName)) ∈ lw_g := tc_3 (List.mem_of_getElem? (i := 218) rfl) rfl
theorem tw_699 : (Jvm.Cond.static ({ cls := "LeastRue$TwoWorlds", name := "commonDivisor", desc := "(JJ)J" } : Jvm.MethodName)) ∈ lw_g := tc_3 (List.mem_of_getElem? (i := 219) rfl) rfl
theorem tw_700 : (Jvm.Cond.code ({ cls := "LeastRue$TwoWorlds", name := "commonDivisor", desc := "(JJ)J" } : Jvm.MethodName) prog_9_method_12_code (11 : Nat) (Option.some Jvm.ClassFile.FieldType.long)) ∈ lw_g := tc_3 (List.mem_of_getElem? (i := 220) rfl) rfl
theorem tw_701 : (Jvm.Cond.methodLink "LeastRueLaw" (134 : Nat) ({ cls := "LeastRue", name := "two", desc := "(I)I" } : Jvm.MethodName)) ∈ lw_g := tc_3 (List.mem_of_getElem? (i := 221) rfl) rfl
theorem tw_702 : (Jvm.Cond.instanceMethod ({ cls := "LeastRue", name := "two", desc := "(I)I" } : Jvm.MethodName)) ∈ lw_g := tc_3 (List.mem_of_getElem? (i := 222) rfl) rfl
theorem tw_703 : (Jvm.Cond.selects "LeastRue" ({ cls := "LeastRue", name := "two", desc := "(I)I" } : Jvm.MethodName) ({ cls := "LeastRue", name := "two", desc := "(I)I" } : Jvm.MethodName)) ∈ lw_g := tc_3 (List.mem_of_getElem? (i := 223) rfl) rfl
theorem tw_704 : (Jvm.Cond.code ({ cls := "LeastRue", name := "two", desc := "(I)I" } : Jvm.MethodName) prog_1_method_31_code (2 : Nat) (Option.some Jvm.ClassFile.FieldType.int)) ∈ lw_g := tc_3 (List.mem_of_getElem? (i := 224) rfl) rfl
theorem tw_705 : (Jvm.Cond.methodLink "LeastRue" (252 : Nat) ({ cls := "LeastRue$TwoSteps", name := "dearestWith", desc := "(I)I" } : Jvm.MethodName)) ∈ lw_g := tc_3 (List.mem_of_getElem? (i := 225) rfl) rfl
theorem tw_706 : (Jvm.Cond.instanceMethod ({ cls := "LeastRue$TwoSteps", name := "dearestWith", desc := "(I)I" } : Jvm.MethodName)) ∈ lw_g := tc_3 (List.mem_of_getElem? (i := 226) rfl) rfl
theorem tw_707 : (Jvm.Cond.selects "LeastRue$TwoSteps" ({ cls := "LeastRue$TwoSteps", name := "dearestWith", desc := "(I)I" } : Jvm.MethodName) ({ cls := "LeastRue$TwoSteps", name := "dearestWith", desc := "(I)I" } : Jvm.MethodName)) ∈ lw_g := tc_3 (List.mem_of_getElem? (i := 227) rfl) rfl
theorem tw_708 : (Jvm.Cond.code ({ cls := "LeastRue$TwoSteps", name := "dearestWith", desc := "(I)I" } : Jvm.MethodName) prog_8_method_2_code (4 : Nat) (Option.some Jvm.ClassFile.FieldType.int)) ∈ lw_g := tc_3 (List.mem_of_getElem? (i := 228) rfl) rfl
theorem tw_709 : (Jvm.Cond.methodLink "LeastRue$TwoSteps" (36 : Nat) ({ cls := "LeastRue$Bench", name := "hasWorld", desc := "(I)Z" } : Jvm.MethodName)) ∈ lw_g := tc_3 (List.mem_of_getElem? (i := 229) rfl) rfl
theorem tw_710 : (Jvm.Cond.methodLink "LeastRue$TwoSteps" (42 : Nat) ({ cls := "LeastRue$TwoSteps", name := "leastLater", desc := "(II)I" } : Jvm.MethodName)) ∈ lw_g := tc_3 (List.mem_of_getElem? (i := 230) rfl) rfl
theorem tw_712 : (Jvm.Cond.instanceMethod ({ cls := "LeastRue$TwoSteps", name := "leastLater", desc := "(II)I" } : Jvm.MethodName)) ∈ lw_g := tc_3 (List.mem_of_getElem? (i := 232) rfl) rfl
theorem tw_713 : (Jvm.Cond.code ({ cls := "LeastRue$TwoSteps", name := "leastLater", desc := "(II)I" } : Jvm.MethodName) prog_8_method_4_code (5 : Nat) (Option.some Jvm.ClassFile.FieldType.int)) ∈ lw_g := tc_3 (List.mem_of_getElem? (i := 233) rfl) rfl
theorem tw_714 : (Jvm.Cond.methodLink "LeastRue$TwoSteps" (54 : Nat) ({ cls := "LeastRue$Sums", name := "fill", desc := "([I)V" } : Jvm.MethodName)) ∈ lw_g := tc_3 (List.mem_of_getElem? (i := 234) rfl) rfl
theorem tw_715 : (Jvm.Cond.constant "LeastRue$TwoSteps" (77 : Nat) (1000000 : Int32)) ∈ lw_g := tc_3 (List.mem_of_getElem? (i := 235) rfl) rfl
theorem tw_716 : (Jvm.Cond.methodLink "LeastRue$TwoSteps" (58 : Nat) ({ cls := "LeastRue$Sums", name := "total", desc := "(I)I" } : Jvm.MethodName)) ∈ lw_g := tc_3 (List.mem_of_getElem? (i := 236) rfl) rfl
theorem tw_717 : (Jvm.Cond.methodLink "LeastRue$TwoSteps" (86 : Nat) ({ cls := "java/lang/Math", name := "min", desc := "(II)I" } : Jvm.MethodName)) ∈ lw_g := tc_3 (List.mem_of_getElem? (i := 237) rfl) rfl
theorem tw_718 : (Jvm.Cond.methodLink "LeastRue$TwoSteps" (46 : Nat) ({ cls := "java/lang/Math", name := "max", desc := "(II)I" } : Jvm.MethodName)) ∈ lw_g := tc_3 (List.mem_of_getElem? (i := 238) rfl) rfl
theorem tw_719 : (Jvm.Cond.methodLink "LeastRueLaw" (138 : Nat) ({ cls := "LeastRue", name := "first", desc := "()I" } : Jvm.MethodName)) ∈ lw_g := tc_3 (List.mem_of_getElem? (i := 239) rfl) rfl
theorem tw_720 : (Jvm.Cond.instanceMethod ({ cls := "LeastRue", name := "first", desc := "()I" } : Jvm.MethodName)) ∈ lw_g := tc_4 (List.mem_of_getElem? (i := 0) rfl) rfl
theorem tw_721 : (Jvm.Cond.selects "LeastRue" ({ cls := "LeastRue", name := "first", desc := "()I" } : Jvm.MethodName) ({ cls := "LeastRue", name := "first", desc := "()I" } : Jvm.MethodName)) ∈ lw_g := tc_4 (List.mem_of_getElem? (i := 1) rfl) rfl
theorem tw_722 : (Jvm.Cond.code ({ cls := "LeastRue", name := "first", desc := "()I" } : Jvm.MethodName) prog_1_method_32_code (1 : Nat) (Option.some Jvm.ClassFile.FieldType.int)) ∈ lw_g := tc_4 (List.mem_of_getElem? (i := 2) rfl) rfl
theorem tw_723 : (Jvm.Cond.methodLink "LeastRue" (255 : Nat) ({ cls := "LeastRue$TwoSteps", name := "leastDearSet", desc := "()I" } : Jvm.MethodName)) ∈ lw_g := tc_4 (List.mem_of_getElem? (i := 3) rfl) rfl
theorem tw_724 : (Jvm.Cond.instanceMethod ({ cls := "LeastRue$TwoSteps", name := "leastDearSet", desc := "()I" } : Jvm.MethodName)) ∈ lw_g := tc_4 (List.mem_of_getElem? (i := 4) rfl) rfl
theorem tw_725 : (Jvm.Cond.selects "LeastRue$TwoSteps" ({ cls := "LeastRue$TwoSteps", name := "leastDearSet", desc := "()I" } : Jvm.MethodName) ({ cls := "LeastRue$TwoSteps", name := "leastDearSet", desc := "()I" } : Jvm.MethodName)) ∈ lw_g := tc_4 (List.mem_of_getElem? (i := 5) rfl) rfl
theorem tw_726 : (Jvm.Cond.code ({ cls := "LeastRue$TwoSteps", name := "leastDearSet", desc := "()I" } : Jvm.MethodName) prog_8_method_3_code (4 : Nat) (Option.some Jvm.ClassFile.FieldType.int)) ∈ lw_g := tc_4 (List.mem_of_getElem? (i := 6) rfl) rfl
theorem tw_727 : (Jvm.Cond.methodLink "LeastRue$TwoSteps" (69 : Nat) ({ cls := "LeastRue$TwoSteps", name := "spreadLeast", desc := "([II)V" } : Jvm.MethodName)) ∈ lw_g := tc_4 (List.mem_of_getElem? (i := 7) rfl) rfl
theorem tw_729 : (Jvm.Cond.instanceMethod ({ cls := "LeastRue$TwoSteps", name := "spreadLeast", desc := "([II)V" } : Jvm.MethodName)) ∈ lw_g := tc_4 (List.mem_of_getElem? (i := 9) rfl) rfl
theorem tw_730 : (Jvm.Cond.code ({ cls := "LeastRue$TwoSteps", name := "spreadLeast", desc := "([II)V" } : Jvm.MethodName) prog_8_method_5_code (4 : Nat) (Option.none : Option Jvm.ClassFile.FieldType)) ∈ lw_g := tc_4 (List.mem_of_getElem? (i := 10) rfl) rfl
theorem tw_731 : (Jvm.Cond.methodLink "LeastRue$TwoSteps" (89 : Nat) ({ cls := "LeastRue$TwoSteps", name := "settle", desc := "(III)V" } : Jvm.MethodName)) ∈ lw_g := tc_4 (List.mem_of_getElem? (i := 11) rfl) rfl
theorem tw_733 : (Jvm.Cond.instanceMethod ({ cls := "LeastRue$TwoSteps", name := "settle", desc := "(III)V" } : Jvm.MethodName)) ∈ lw_g := tc_4 (List.mem_of_getElem? (i := 13) rfl) rfl
theorem tw_734 : (Jvm.Cond.code ({ cls := "LeastRue$TwoSteps", name := "settle", desc := "(III)V" } : Jvm.MethodName) prog_8_method_6_code (9 : Nat) (Option.none : Option Jvm.ClassFile.FieldType)) ∈ lw_g := tc_4 (List.mem_of_getElem? (i := 14) rfl) rfl
theorem tw_735 : (Jvm.Cond.methodLinkNest "LeastRue$TwoSteps" (73 : Nat) ({ cls := "LeastRue", name := "firstLeast", desc := "([II)I" } : Jvm.MethodName) "LeastRue") ∈ lw_tbl := tn_4 (List.mem_of_getElem? (i := 15) rfl)
theorem tw_736 : (Jvm.Cond.methodLink "LeastRueLaw" (142 : Nat) ({ cls := "LeastRue", name := "image", desc := "(I)I" } : Jvm.MethodName)) ∈ lw_g := tc_4 (List.mem_of_getElem? (i := 16) rfl) rfl
theorem tw_737 : (Jvm.Cond.instanceMethod ({ cls := "LeastRue", name := "image", desc := "(I)I" } : Jvm.MethodName)) ∈ lw_g := tc_4 (List.mem_of_getElem? (i := 17) rfl) rfl
theorem tw_738 : (Jvm.Cond.selects "LeastRue" ({ cls := "LeastRue", name := "image", desc := "(I)I" } : Jvm.MethodName) ({ cls := "LeastRue", name := "image", desc := "(I)I" } : Jvm.MethodName)) ∈ lw_g := tc_4 (List.mem_of_getElem? (i := 18) rfl) rfl
theorem tw_739 : (Jvm.Cond.code ({ cls := "LeastRue", name := "image", desc := "(I)I" } : Jvm.MethodName) prog_1_method_33_code (2 : Nat) (Option.some Jvm.ClassFile.FieldType.int)) ∈ lw_g := tc_4 (List.mem_of_getElem? (i := 19) rfl) rfl
theorem tw_740 : (Jvm.Cond.methodLink "LeastRue" (258 : Nat) ({ cls := "LeastRue$Bench", name := "copyFrom", desc := "(LLeastRue$Bench;)V" } : Jvm.MethodName)) ∈ lw_g := tc_4 (List.mem_of_getElem? (i := 20) rfl) rfl
theorem tw_741 : (Jvm.Cond.instanceMethod ({ cls := "LeastRue$Bench", name := "copyFrom", desc := "(LLeastRue$Bench;)V" } : Jvm.MethodName)) ∈ lw_g := tc_4 (List.mem_of_getElem? (i := 21) rfl) rfl
theorem tw_742 : (Jvm.Cond.selects "LeastRue$Bench" ({ cls := "LeastRue$Bench", name := "copyFrom", desc := "(LLeastRue$Bench;)V" } : Jvm.MethodName) ({ cls := "LeastRue$Bench", name := "copyFrom", desc := "(LLeastRue$Bench;)V" } : Jvm.MethodName)) ∈ lw_g := tc_4 (List.mem_of_getElem? (i := 22) rfl) rfl
theorem tw_743 : (Jvm.Cond.code ({ cls := "LeastRue$Bench", name := "copyFrom", desc := "(LLeastRue$Bench;)V" } : Jvm.MethodName) prog_2_method_3_code (3 : Nat) (Option.none : Option Jvm.ClassFile.FieldType)) ∈ lw_g := tc_4 (List.mem_of_getElem? (i := 23) rfl) rfl
theorem tw_744 : (Jvm.Cond.methodLink "LeastRue$Bench" (45 : Nat) ({ cls := "java/lang/System", name := "arraycopy", desc := "(Ljava/lang/Object;ILjava/lang/Object;II)V" } : Jvm.MethodName)) ∈ lw_g := tc_4 (List.mem_of_getElem? (i := 24) rfl) rfl
theorem tw_745 : (Jvm.Cond.static ({ cls := "java/lang/System", name := "arraycopy", desc := "(Ljava/lang/Object;ILjava/lang/Object;II)V" } : Jvm.MethodName)) ∈ lw_g := tc_4 (List.mem_of_getElem? (i := 25) rfl) rfl
theorem tw_746 : (Jvm.Cond.native ({ cls := "java/lang/System", name := "arraycopy", desc := "(Ljava/lang/Object;ILjava/lang/Object;II)V" } : Jvm.MethodName)) ∈ lw_g := tc_4 (List.mem_of_getElem? (i := 26) rfl) rfl
theorem tw_747 : (Jvm.Cond.methodLink "LeastRueLaw" (146 : Nat) ({ cls := "LeastRue", name := "back", desc := "(I)I" } : Jvm.MethodName)) ∈ lw_g := tc_4 (List.mem_of_getElem? (i := 27) rfl) rfl
theorem tw_748 : (Jvm.Cond.instanceMethod ({ cls := "LeastRue", name := "back", desc := "(I)I" } : Jvm.MethodName)) ∈ lw_g := tc_4 (List.mem_of_getElem? (i := 28) rfl) rfl
theorem tw_749 : (Jvm.Cond.selects "LeastRue" ({ cls := "LeastRue", name := "back", desc := "(I)I" } : Jvm.MethodName) ({ cls := "LeastRue", name := "back", desc := "(I)I" } : Jvm.MethodName)) ∈ lw_g := tc_4 (List.mem_of_getElem? (i := 29) rfl) rfl
theorem tw_750 : (Jvm.Cond.code ({ cls := "LeastRue", name := "back", desc := "(I)I" } : Jvm.MethodName) prog_1_method_34_code (2 : Nat) (Option.some Jvm.ClassFile.FieldType.int)) ∈ lw_g := tc_4 (List.mem_of_getElem? (i := 30) rfl) rfl
theorem tw_751 : (Jvm.Cond.methodLink "LeastRueLaw" (150 : Nat) ({ cls := "LeastRue", name := "status", desc := "()I" } : Jvm.MethodName)) ∈ lw_g := tc_4 (List.mem_of_getElem? (i := 31) rfl) rfl
theorem tw_752 : (Jvm.Cond.instanceMethod ({ cls := "LeastRue", name := "status", desc := "()I" } : Jvm.MethodName)) ∈ lw_g := tc_4 (List.mem_of_getElem? (i := 32) rfl) rfl
theorem tw_753 : (Jvm.Cond.selects "LeastRue" ({ cls := "LeastRue", name := "status", desc := "()I" } : Jvm.MethodName) ({ cls := "LeastRue", name := "status", desc := "()I" } : Jvm.MethodName)) ∈ lw_g := tc_4 (List.mem_of_getElem? (i := 33) rfl) rfl
theorem tw_754 : (Jvm.Cond.code ({ cls := "LeastRue", name := "status", desc := "()I" } : Jvm.MethodName) prog_1_method_35_code (1 : Nat) (Option.some Jvm.ClassFile.FieldType.int)) ∈ lw_g := tc_4 (List.mem_of_getElem? (i := 34) rfl) rfl
theorem tw_755 : (Jvm.Cond.classLink "LeastRueLaw" (10 : Nat) "LeastRueModel") ∈ lw_g := tc_4 (List.mem_of_getElem? (i := 35) rfl) rfl
theorem tw_756 : (Jvm.Cond.instantiable "LeastRueModel" (23 : Nat)) ∈ lw_g := tc_4 (List.mem_of_getElem? (i := 36) rfl) rfl
theorem tw_757 : (Jvm.Cond.methodLink "LeastRueLaw" (12 : Nat) ({ cls := "LeastRueModel", name := "<init>", desc := "()V" } : Jvm.MethodName)) ∈ lw_g := tc_4 (List.mem_of_getElem? (i := 37) rfl) rfl
theorem tw_758 : (Jvm.Cond.instanceMethod ({ cls := "LeastRueModel", name := "<init>", desc := "()V" } : Jvm.MethodName)) ∈ lw_g := tc_4 (List.mem_of_getElem? (i := 38) rfl) rfl
theorem tw_759 : (Jvm.Cond.code ({ cls := "LeastRueModel", name := "<init>", desc := "()V" } : Jvm.MethodName) prog_11_method_3_code (1 : Nat) (Option.none : Option Jvm.ClassFile.FieldType)) ∈ lw_g := tc_4 (List.mem_of_getElem? (i := 39) rfl) rfl
theorem tw_760 : (Jvm.Cond.methodLink "LeastRueModel" (7 : Nat) ({ cls := "java/lang/Object", name := "<init>", desc := "()V" } : Jvm.MethodName)) ∈ lw_g := tc_4 (List.mem_of_getElem? (i := 40) rfl) rfl
theorem tw_761 : (Jvm.Cond.methodLink "LeastRueModel" (63 : Nat) ({ cls := "LeastRueModel", name := "gathers", desc := "()Z" } : Jvm.MethodName)) ∈ lw_g := tc_4 (List.mem_of_getElem? (i := 41) rfl) rfl
theorem tw_763 : (Jvm.Cond.instanceMethod ({ cls := "LeastRueModel", name := "gathers", desc := "()Z" } : Jvm.MethodName)) ∈ lw_g := tc_4 (List.mem_of_getElem? (i := 43) rfl) rfl
theorem tw_764 : (Jvm.Cond.code ({ cls := "LeastRueModel", name := "gathers", desc := "()Z" } : Jvm.MethodName) prog_11_method_12_code (2 : Nat) (Option.some Jvm.ClassFile.FieldType.boolean)) ∈ lw_g := tc_4 (List.mem_of_getElem? (i := 44) rfl) rfl
theorem tw_765 : (Jvm.Cond.methodLink "LeastRueModel" (104 : Nat) ({ cls := "LeastRueModel", name := "isChoice", desc := "(I)Z" } : Jvm.MethodName)) ∈ lw_g := tc_4 (List.mem_of_getElem? (i := 45) rfl) rfl
theorem tw_767 : (Jvm.Cond.instanceMethod ({ cls := "LeastRueModel", name := "isChoice", desc := "(I)Z" } : Jvm.MethodName)) ∈ lw_g := tc_4 (List.mem_of_getElem? (i := 47) rfl) rfl
theorem tw_768 : (Jvm.Cond.code ({ cls := "LeastRueModel", name := "isChoice", desc := "(I)Z" } : Jvm.MethodName) prog_11_method_11_code (2 : Nat) (Option.some Jvm.ClassFile.FieldType.boolean)) ∈ lw_g := tc_4 (List.mem_of_getElem? (i := 48) rfl) rfl
theorem tw_769 : (Jvm.Cond.methodLink "LeastRueModel" (85 : Nat) ({ cls := "LeastRueModel", name := "size", desc := "(I)I" } : Jvm.MethodName)) ∈ lw_g := tc_4 (List.mem_of_getElem? (i := 49) rfl) rfl
theorem tw_770 : (Jvm.Cond.static ({ cls := "LeastRueModel", name := "size", desc := "(I)I" } : Jvm.MethodName)) ∈ lw_g := tc_4 (List.mem_of_getElem? (i := 50) rfl) rfl
theorem tw_771 : (Jvm.Cond.code ({ cls := "LeastRueModel", name := "size", desc := "(I)I" } : Jvm.MethodName) prog_11_method_6_code (3 : Nat) (Option.some Jvm.ClassFile.FieldType.int)) ∈ lw_g := tc_4 (List.mem_of_getElem? (i := 51) rfl) rfl
theorem tw_772 : (Jvm.Cond.methodLink "LeastRueModel" (74 : Nat) ({ cls := "LeastRueModel", name := "has", desc := "(II)Z" } : Jvm.MethodName)) ∈ lw_g := tc_4 (List.mem_of_getElem? (i := 52) rfl) rfl
theorem tw_773 : (Jvm.Cond.static ({ cls := "LeastRueModel", name := "has", desc := "(II)Z" } : Jvm.MethodName)) ∈ lw_g := tc_4 (List.mem_of_getElem? (i := 53) rfl) rfl
theorem tw_774 : (Jvm.Cond.code ({ cls := "LeastRueModel", name := "has", desc := "(II)Z" } : Jvm.MethodName) prog_11_method_5_code (2 : Nat) (Option.some Jvm.ClassFile.FieldType.boolean)) ∈ lw_g := tc_4 (List.mem_of_getElem? (i := 54) rfl) rfl
theorem tw_775 : (Jvm.Cond.methodLink "LeastRueModel" (91 : Nat) ({ cls := "LeastRueModel", name := "isWay", desc := "(I)Z" } : Jvm.MethodName)) ∈ lw_g := tc_4 (List.mem_of_getElem? (i := 55) rfl) rfl
theorem tw_777 : (Jvm.Cond.instanceMethod ({ cls := "LeastRueModel", name := "isWay", desc := "(I)Z" } : Jvm.MethodName)) ∈ lw_g := tc_4 (List.mem_of_getElem? (i := 57) rfl) rfl
theorem tw_778 : (Jvm.Cond.code ({ cls := "LeastRueModel", name := "isWay", desc := "(I)Z" } : Jvm.MethodName) prog_11_method_8_code (6 : Nat) (Option.some Jvm.ClassFile.FieldType.boolean)) ∈ lw_g := tc_4 (List.mem_of_getElem? (i := 58) rfl) rfl
theorem tw_779 : (Jvm.Cond.methodLink "LeastRueModel" (78 : Nat) ({ cls := "LeastRueModel", name := "reached", desc := "(I)I" } : Jvm.MethodName)) ∈ lw_g := tc_4 (List.mem_of_getElem? (i := 59) rfl) rfl
theorem tw_781 : (Jvm.Cond.instanceMethod ({ cls := "LeastRueModel", name := "reached", desc := "(I)I" } : Jvm.MethodName)) ∈ lw_g := tc_4 (List.mem_of_getElem? (i := 61) rfl) rfl
theorem tw_782 : (Jvm.Cond.code ({ cls := "LeastRueModel", name := "reached", desc := "(I)I" } : Jvm.MethodName) prog_11_method_7_code (5 : Nat) (Option.some Jvm.ClassFile.FieldType.int)) ∈ lw_g := tc_4 (List.mem_of_getElem? (i := 62) rfl) rfl
theorem tw_783 : (Jvm.Cond.methodLink "LeastRueModel" (95 : Nat) ({ cls := "LeastRueModel", name := "isTree", desc := "(I)Z" } : Jvm.MethodName)) ∈ lw_g := tc_4 (List.mem_of_getElem? (i := 63) rfl) rfl
theorem tw_785 : (Jvm.Cond.instanceMethod ({ cls := "LeastRueModel", name := "isTree", desc := "(I)Z" } : Jvm.MethodName)) ∈ lw_g := tc_4 (List.mem_of_getElem? (i := 65) rfl) rfl
theorem tw_786 : (Jvm.Cond.code ({ cls := "LeastRueModel", name := "isTree", desc := "(I)Z" } : Jvm.MethodName) prog_11_method_9_code (3 : Nat) (Option.some Jvm.ClassFile.FieldType.boolean)) ∈ lw_g := tc_4 (List.mem_of_getElem? (i := 66) rfl) rfl
theorem tw_787 : (Jvm.Cond.methodLink "LeastRueModel" (98 : Nat) ({ cls := "LeastRueModel", name := "isPairs", desc := "(I)Z" } : Jvm.MethodName)) ∈ lw_g := tc_4 (List.mem_of_getElem? (i := 67) rfl) rfl
theorem tw_789 : (Jvm.Cond.instanceMethod ({ cls := "LeastRueModel", name := "isPairs", desc := "(I)Z" } : Jvm.MethodName)) ∈ lw_g := tc_4 (List.mem_of_getElem? (i := 69) rfl) rfl
theorem tw_790 : (Jvm.Cond.code ({ cls := "LeastRueModel", name := "isPairs", desc := "(I)Z" } : Jvm.MethodName) prog_11_method_10_code (6 : Nat) (Option.some Jvm.ClassFile.FieldType.boolean)) ∈ lw_g := tc_4 (List.mem_of_getElem? (i := 70) rfl) rfl
theorem tw_791 : (Jvm.Cond.fieldLink "LeastRueModel" (1 : Nat) "LeastRueModel" "status" "I") ∈ lw_g := tc_4 (List.mem_of_getElem? (i := 71) rfl) rfl
theorem tw_792 : (Jvm.Cond.fieldLink "LeastRueModel" (67 : Nat) "LeastRueModel" "things" "I") ∈ lw_g := tc_4 (List.mem_of_getElem? (i := 72) rfl) rfl
theorem tw_793 : (Jvm.Cond.fieldLink "LeastRueModel" (88 : Nat) "LeastRueModel" "kind" "I") ∈ lw_g := tc_4 (List.mem_of_getElem? (i := 73) rfl) rfl
theorem tw_794 : (Jvm.Cond.fieldLink "LeastRueModel" (82 : Nat) "LeastRueModel" "k0" "I") ∈ lw_g := tc_4 (List.mem_of_getElem? (i := 74) rfl) rfl
theorem tw_795 : (Jvm.Cond.fieldLink "LeastRueModel" (13 : Nat) "LeastRueModel" "low" "[I") ∈ lw_g := tc_4 (List.mem_of_getElem? (i := 75) rfl) rfl
theorem tw_796 : (Jvm.Cond.fieldLink "LeastRueModel" (17 : Nat) "LeastRueModel" "high" "[I") ∈ lw_g := tc_4 (List.mem_of_getElem? (i := 76) rfl) rfl
theorem tw_797 : (Jvm.Cond.fieldLink "LeastRueModel" (20 : Nat) "LeastRueModel" "one" "[I") ∈ lw_g := tc_4 (List.mem_of_getElem? (i := 77) rfl) rfl
theorem tw_798 : (Jvm.Cond.fieldLink "LeastRueModel" (23 : Nat) "LeastRueModel" "other" "[I") ∈ lw_g := tc_4 (List.mem_of_getElem? (i := 78) rfl) rfl
theorem tw_799 : (Jvm.Cond.fieldLink "LeastRueModel" (26 : Nat) "LeastRueModel" "price" "[I") ∈ lw_g := tc_4 (List.mem_of_getElem? (i := 79) rfl) rfl
theorem tw_800 : (Jvm.Cond.fieldLink "LeastRueModel" (29 : Nat) "LeastRueModel" "isWorld" "[Z") ∈ lw_g := tc_4 (List.mem_of_getElem? (i := 80) rfl) rfl
theorem tw_801 : (Jvm.Cond.fieldLink "LeastRueModel" (33 : Nat) "LeastRueModel" "costs" "[I") ∈ lw_g := tc_4 (List.mem_of_getElem? (i := 81) rfl) rfl
theorem tw_802 : (Jvm.Cond.fieldLink "LeastRueModel" (101 : Nat) "LeastRueModel" "choices" "I") ∈ lw_g := tc_4 (List.mem_of_getElem? (i := 82) rfl) rfl
theorem tw_803 : (Jvm.Cond.fieldLink "LeastRueModel" (36 : Nat) "LeastRueModel" "bits" "[I") ∈ lw_g := tc_4 (List.mem_of_getElem? (i := 83) rfl) rfl
theorem tw_804 : (Jvm.Cond.fieldLink "LeastRueModel" (39 : Nat) "LeastRueModel" "sheetSort" "[I") ∈ lw_g := tc_4 (List.mem_of_getElem? (i := 84) rfl) rfl
theorem tw_805 : (Jvm.Cond.fieldLink "LeastRueModel" (42 : Nat) "LeastRueModel" "sheetSize" "[I") ∈ lw_g := tc_4 (List.mem_of_getElem? (i := 85) rfl) rfl
theorem tw_806 : (Jvm.Cond.fieldLink "LeastRueModel" (45 : Nat) "LeastRueModel" "sheetRow" "[I") ∈ lw_g := tc_4 (List.mem_of_getElem? (i := 86) rfl) rfl
theorem tw_807 : (Jvm.Cond.fieldLink "LeastRueModel" (48 : Nat) "LeastRueModel" "front" "[I") ∈ lw_g := tc_4 (List.mem_of_getElem? (i := 87) rfl) rfl
theorem tw_808 : (Jvm.Cond.fieldLink "LeastRueModel" (173 : Nat) "LeastRueModel" "upper" "J") ∈ lw_g := tc_4 (List.mem_of_getElem? (i := 88) rfl) rfl
theorem tw_809 : (Jvm.Cond.fieldLink "LeastRueModel" (169 : Nat) "LeastRueModel" "lower" "J") ∈ lw_g := tc_4 (List.mem_of_getElem? (i := 89) rfl) rfl
theorem tw_810 : (Jvm.Cond.fieldLink "LeastRueModel" (51 : Nat) "LeastRueModel" "rueV" "[I") ∈ lw_g := tc_4 (List.mem_of_getElem? (i := 90) rfl) rfl
theorem tw_811 : (Jvm.Cond.fieldLink "LeastRueModel" (54 : Nat) "LeastRueModel" "rueW" "[I") ∈ lw_g := tc_4 (List.mem_of_getElem? (i := 91) rfl) rfl
theorem tw_812 : (Jvm.Cond.fieldLink "LeastRueModel" (57 : Nat) "LeastRueModel" "isKept" "[Z") ∈ lw_g := tc_4 (List.mem_of_getElem? (i := 92) rfl) rfl
theorem tw_813 : (Jvm.Cond.fieldLink "LeastRueModel" (60 : Nat) "LeastRueModel" "kept" "[I") ∈ lw_g := tc_4 (List.mem_of_getElem? (i := 93) rfl) rfl
theorem tw_861 : (Jvm.Cond.methodLink "LeastRueLaw" (17 : Nat) ({ cls := "LeastRueModel", name := "thing", desc := "(II)I" } : Jvm.MethodName)) ∈ lw_g := tc_4 (List.mem_of_getElem? (i := 141) rfl) rfl
theorem tw_862 : (Jvm.Cond.instanceMethod ({ cls := "LeastRueModel", name := "thing", desc := "(II)I" } : Jvm.MethodName)) ∈ lw_g := tc_4 (List.mem_of_getElem? (i := 142) rfl) rfl
theorem tw_863 : (Jvm.Cond.selects "LeastRueModel" ({ cls := "LeastRueModel", name := "thing", desc := "(II)I" } : Jvm.MethodName) ({ cls := "LeastRueModel", name := "thing", desc := "(II)I" } : Jvm.MethodName)) ∈ lw_g := tc_4 (List.mem_of_getElem? (i := 143) rfl) rfl
theorem tw_864 : (Jvm.Cond.code ({ cls := "LeastRueModel", name := "thing", desc := "(II)I" } : Jvm.MethodName) prog_11_method_13_code (5 : Nat) (Option.some Jvm.ClassFile.FieldType.int)) ∈ lw_g := tc_4 (List.mem_of_getElem? (i := 144) rfl) rfl
theorem tw_865 : (Jvm.Cond.methodLink "LeastRueModel" (70 : Nat) ({ cls := "LeastRueModel", name := "in", desc := "(III)Z" } : Jvm.MethodName)) ∈ lw_g := tc_4 (List.mem_of_getElem? (i := 145) rfl) rfl
theorem tw_866 : (Jvm.Cond.static ({ cls := "LeastRueModel", name := "in", desc := "(III)Z" } : Jvm.MethodName)) ∈ lw_g := tc_4 (List.mem_of_getElem? (i := 146) rfl) rfl
theorem tw_867 : (Jvm.Cond.code ({ cls := "LeastRueModel", name := "in", desc := "(III)Z" } : Jvm.MethodName) prog_11_method_1_code (3 : Nat) (Option.some Jvm.ClassFile.FieldType.boolean)) ∈ lw_g := tc_4 (List.mem_of_getElem? (i := 147) rfl) rfl
theorem tw_868 : (Jvm.Cond.methodLink "LeastRueModel" (107 : Nat) ({ cls := "LeastRueModel", name := "tells", desc := "(I)I" } : Jvm.MethodName)) ∈ lw_g := tc_4 (List.mem_of_getElem? (i := 148) rfl) rfl
theorem tw_870 : (Jvm.Cond.instanceMethod ({ cls := "LeastRueModel", name := "tells", desc := "(I)I" } : Jvm.MethodName)) ∈ lw_g := tc_4 (List.mem_of_getElem? (i := 150) rfl) rfl
theorem tw_871 : (Jvm.Cond.code ({ cls := "LeastRueModel", name := "tells", desc := "(I)I" } : Jvm.MethodName) prog_11_method_2_code (2 : Nat) (Option.some Jvm.ClassFile.FieldType.int)) ∈ lw_g := tc_4 (List.mem_of_getElem? (i := 151) rfl) rfl
theorem tw_872 : (Jvm.Cond.methodLink "LeastRueLaw" (22 : Nat) ({ cls := "LeastRueModel", name := "ends", desc := "(III)I" } : Jvm.MethodName)) ∈ lw_g := tc_4 (List.mem_of_getElem? (i := 152) rfl) rfl
theorem tw_873 : (Jvm.Cond.instanceMethod ({ cls := "LeastRueModel", name := "ends", desc := "(III)I" } : Jvm.MethodName)) ∈ lw_g := tc_4 (List.mem_of_getElem? (i := 153) rfl) rfl
theorem tw_874 : (Jvm.Cond.selects "LeastRueModel" ({ cls := "LeastRueModel", name := "ends", desc := "(III)I" } : Jvm.MethodName) ({ cls := "LeastRueModel", name := "ends", desc := "(III)I" } : Jvm.MethodName)) ∈ lw_g := tc_4 (List.mem_of_getElem? (i := 154) rfl) rfl
theorem tw_875 : (Jvm.Cond.code ({ cls := "LeastRueModel", name := "ends", desc := "(III)I" } : Jvm.MethodName) prog_11_method_14_code (4 : Nat) (Option.some Jvm.ClassFile.FieldType.int)) ∈ lw_g := tc_4 (List.mem_of_getElem? (i := 155) rfl) rfl
theorem tw_876 : (Jvm.Cond.methodLink "LeastRueModel" (110 : Nat) ({ cls := "LeastRueModel", name := "isThing", desc := "(I)Z" } : Jvm.MethodName)) ∈ lw_g := tc_4 (List.mem_of_getElem? (i := 156) rfl) rfl
theorem tw_878 : (Jvm.Cond.instanceMethod ({ cls := "LeastRueModel", name := "isThing", desc := "(I)Z" } : Jvm.MethodName)) ∈ lw_g := tc_4 (List.mem_of_getElem? (i := 158) rfl) rfl
theorem tw_879 : (Jvm.Cond.code ({ cls := "LeastRueModel", name := "isThing", desc := "(I)Z" } : Jvm.MethodName) prog_11_method_4_code (2 : Nat) (Option.some Jvm.ClassFile.FieldType.boolean)) ∈ lw_g := tc_4 (List.mem_of_getElem? (i := 159) rfl) rfl
theorem tw_880 : (Jvm.Cond.methodLink "LeastRueLaw" (26 : Nat) ({ cls := "LeastRueModel", name := "posts", desc := "(III)I" } : Jvm.MethodName)) ∈ lw_g := tc_4 (List.mem_of_getElem? (i := 160) rfl) rfl
theorem tw_881 : (Jvm.Cond.instanceMethod ({ cls := "LeastRueModel", name := "posts", desc := "(III)I" } : Jvm.MethodName)) ∈ lw_g := tc_4 (List.mem_of_getElem? (i := 161) rfl) rfl
theorem tw_882 : (Jvm.Cond.selects "LeastRueModel" ({ cls := "LeastRueModel", name := "posts", desc := "(III)I" } : Jvm.MethodName) ({ cls := "LeastRueModel", name := "posts", desc := "(III)I" } : Jvm.MethodName)) ∈ lw_g := tc_4 (List.mem_of_getElem? (i := 162) rfl) rfl
theorem tw_883 : (Jvm.Cond.code ({ cls := "LeastRueModel", name := "posts", desc := "(III)I" } : Jvm.MethodName) prog_11_method_15_code (6 : Nat) (Option.some Jvm.ClassFile.FieldType.int)) ∈ lw_g := tc_4 (List.mem_of_getElem? (i := 163) rfl) rfl
theorem tw_884 : (Jvm.Cond.methodLink "LeastRueLaw" (30 : Nat) ({ cls := "LeastRueModel", name := "price", desc := "(II)I" } : Jvm.MethodName)) ∈ lw_g := tc_4 (List.mem_of_getElem? (i := 164) rfl) rfl
theorem tw_885 : (Jvm.Cond.instanceMethod ({ cls := "LeastRueModel", name := "price", desc := "(II)I" } : Jvm.MethodName)) ∈ lw_g := tc_4 (List.mem_of_getElem? (i := 165) rfl) rfl
theorem tw_886 : (Jvm.Cond.selects "LeastRueModel" ({ cls := "LeastRueModel", name := "price", desc := "(II)I" } : Jvm.MethodName) ({ cls := "LeastRueModel", name := "price", desc := "(II)I" } : Jvm.MethodName)) ∈ lw_g := tc_4 (List.mem_of_getElem? (i := 166) rfl) rfl
theorem tw_887 : (Jvm.Cond.code ({ cls := "LeastRueModel", name := "price", desc := "(II)I" } : Jvm.MethodName) prog_11_method_16_code (4 : Nat) (Option.some Jvm.ClassFile.FieldType.int)) ∈ lw_g := tc_4 (List.mem_of_getElem? (i := 167) rfl) rfl
theorem tw_888 : (Jvm.Cond.methodLink "LeastRueLaw" (34 : Nat) ({ cls := "LeastRueModel", name := "kind", desc := "(II)I" } : Jvm.MethodName)) ∈ lw_g := tc_4 (List.mem_of_getElem? (i := 168) rfl) rfl
theorem tw_889 : (Jvm.Cond.instanceMethod ({ cls := "LeastRueModel", name := "kind", desc := "(II)I" } : Jvm.MethodName)) ∈ lw_g := tc_4 (List.mem_of_getElem? (i := 169) rfl) rfl
theorem tw_890 : (Jvm.Cond.selects "LeastRueModel" ({ cls := "LeastRueModel", name := "kind", desc := "(II)I" } : Jvm.MethodName) ({ cls := "LeastRueModel", name := "kind", desc := "(II)I" } : Jvm.MethodName)) ∈ lw_g := tc_4 (List.mem_of_getElem? (i := 170) rfl) rfl
theorem tw_891 : (Jvm.Cond.code ({ cls := "LeastRueModel", name := "kind", desc := "(II)I" } : Jvm.MethodName) prog_11_method_17_code (5 : Nat) (Option.some Jvm.ClassFile.FieldType.int)) ∈ lw_g := tc_4 (List.mem_of_getElem? (i := 171) rfl) rfl
theorem tw_892 : (Jvm.Cond.methodLink "LeastRueLaw" (38 : Nat) ({ cls := "LeastRueModel", name := "sheet", desc := "(III)I" } : Jvm.MethodName)) ∈ lw_g := tc_4 (List.mem_of_getElem? (i := 172) rfl) rfl
theorem tw_893 : (Jvm.Cond.instanceMethod ({ cls := "LeastRueModel", name := "sheet", desc := "(III)I" } : Jvm.MethodName)) ∈ lw_g := tc_4 (List.mem_of_getElem? (i := 173) rfl) rfl
theorem tw_894 : (Jvm.Cond.selects "LeastRueModel" ({ cls := "LeastRueModel", name := "sheet", desc := "(III)I" } : Jvm.MethodName) ({ cls := "LeastRueModel", name := "sheet", desc := "(III)I" } : Jvm.MethodName)) ∈ lw_g := tc_4 (List.mem_of_getElem? (i := 174) rfl) rfl
theorem tw_895 : (Jvm.Cond.code ({ cls := "LeastRueModel", name := "sheet", desc := "(III)I" } : Jvm.MethodName) prog_11_method_18_code (5 : Nat) (Option.some Jvm.ClassFile.FieldType.int)) ∈ lw_g := tc_4 (List.mem_of_getElem? (i := 175) rfl) rfl
theorem tw_896 : (Jvm.Cond.methodLink "LeastRueLaw" (42 : Nat) ({ cls := "LeastRueModel", name := "write", desc := "(III)I" } : Jvm.MethodName)) ∈ lw_g := tc_4 (List.mem_of_getElem? (i := 176) rfl) rfl
theorem tw_897 : (Jvm.Cond.instanceMethod ({ cls := "LeastRueModel", name := "write", desc := "(III)I" } : Jvm.MethodName)) ∈ lw_g := tc_4 (List.mem_of_getElem? (i := 177) rfl) rfl
theorem tw_898 : (Jvm.Cond.selects "LeastRueModel" ({ cls := "LeastRueModel", name := "write", desc := "(III)I" } : Jvm.MethodName) ({ cls := "LeastRueModel", name := "write", desc := "(III)I" } : Jvm.MethodName)) ∈ lw_g := tc_4 (List.mem_of_getElem? (i := 178) rfl) rfl
theorem tw_899 : (Jvm.Cond.code ({ cls := "LeastRueModel", name := "write", desc := "(III)I" } : Jvm.MethodName) prog_11_method_19_code (4 : Nat) (Option.some Jvm.ClassFile.FieldType.int)) ∈ lw_g := tc_4 (List.mem_of_getElem? (i := 179) rfl) rfl
theorem tw_900 : (Jvm.Cond.methodLink "LeastRueLaw" (46 : Nat) ({ cls := "LeastRueModel", name := "world", desc := "(III)I" } : Jvm.MethodName)) ∈ lw_g := tc_4 (List.mem_of_getElem? (i := 180) rfl) rfl
theorem tw_901 : (Jvm.Cond.instanceMethod ({ cls := "LeastRueModel", name := "world", desc := "(III)I" } : Jvm.MethodName)) ∈ lw_g := tc_4 (List.mem_of_getElem? (i := 181) rfl) rfl
theorem tw_902 : (Jvm.Cond.selects "LeastRueModel" ({ cls := "LeastRueModel", name := "world", desc := "(III)I" } : Jvm.MethodName) ({ cls := "LeastRueModel", name := "world", desc := "(III)I" } : Jvm.MethodName)) ∈ lw_g := tc_4 (List.mem_of_getElem? (i := 182) rfl) rfl
theorem tw_903 : (Jvm.Cond.code ({ cls := "LeastRueModel", name := "world", desc := "(III)I" } : Jvm.MethodName) prog_11_method_22_code (5 : Nat) (Option.some Jvm.ClassFile.FieldType.int)) ∈ lw_g := tc_4 (List.mem_of_getElem? (i := 183) rfl) rfl
theorem tw_904 : (Jvm.Cond.methodLink "LeastRueModel" (113 : Nat) ({ cls := "LeastRueModel", name := "stands", desc := "(III)I" } : Jvm.MethodName)) ∈ lw_g := tc_4 (List.mem_of_getElem? (i := 184) rfl) rfl
theorem tw_906 : (Jvm.Cond.instanceMethod ({ cls := "LeastRueModel", name := "stands", desc := "(III)I" } : Jvm.MethodName)) ∈ lw_g := tc_4 (List.mem_of_getElem? (i := 186) rfl) rfl
theorem tw_907 : (Jvm.Cond.code ({ cls := "LeastRueModel", name := "stands", desc := "(III)I" } : Jvm.MethodName) prog_11_method_21_code (4 : Nat) (Option.some Jvm.ClassFile.FieldType.int)) ∈ lw_g := tc_4 (List.mem_of_getElem? (i := 187) rfl) rfl
theorem tw_908 : (Jvm.Cond.methodLink "LeastRueModel" (117 : Nat) ({ cls := "LeastRueModel", name := "worlds", desc := "()I" } : Jvm.MethodName)) ∈ lw_g := tc_4 (List.mem_of_getElem? (i := 188) rfl) rfl
theorem tw_910 : (Jvm.Cond.instanceMethod ({ cls := "LeastRueModel", name := "worlds", desc := "()I" } : Jvm.MethodName)) ∈ lw_g := tc_4 (List.mem_of_getElem? (i := 190) rfl) rfl
theorem tw_911 : (Jvm.Cond.code ({ cls := "LeastRueModel", name := "worlds", desc := "()I" } : Jvm.MethodName) prog_11_method_20_code (3 : Nat) (Option.some Jvm.ClassFile.FieldType.int)) ∈ lw_g := tc_4 (List.mem_of_getElem? (i := 191) rfl) rfl
theorem tw_912 : (Jvm.Cond.methodLink "LeastRueLaw" (51 : Nat) ({ cls := "LeastRueModel", name := "forget", desc := "(I)I" } : Jvm.MethodName)) ∈ lw_g := tc_4 (List.mem_of_getElem? (i := 192) rfl) rfl
theorem tw_913 : (Jvm.Cond.instanceMethod ({ cls := "LeastRueModel", name := "forget", desc := "(I)I" } : Jvm.MethodName)) ∈ lw_g := tc_4 (List.mem_of_getElem? (i := 193) rfl) rfl
theorem tw_914 : (Jvm.Cond.selects "LeastRueModel" ({ cls := "LeastRueModel", name := "forget", desc := "(I)I" } : Jvm.MethodName) ({ cls := "LeastRueModel", name := "forget", desc := "(I)I" } : Jvm.MethodName)) ∈ lw_g := tc_4 (List.mem_of_getElem? (i := 194) rfl) rfl
theorem tw_915 : (Jvm.Cond.code ({ cls := "LeastRueModel", name := "forget", desc := "(I)I" } : Jvm.MethodName) prog_11_method_23_code (2 : Nat) (Option.some Jvm.ClassFile.FieldType.int)) ∈ lw_g := tc_4 (List.mem_of_getElem? (i := 195) rfl) rfl
theorem tw_916 : (Jvm.Cond.methodLink "LeastRueLaw" (55 : Nat) ({ cls := "LeastRueModel", name := "count", desc := "(I)I" } : Jvm.MethodName)) ∈ lw_g := tc_4 (List.mem_of_getElem? (i := 196) rfl) rfl
theorem tw_917 : (Jvm.Cond.instanceMethod ({ cls := "LeastRueModel", name := "count", desc := "(I)I" } : Jvm.MethodName)) ∈ lw_g := tc_4 (List.mem_of_getElem? (i := 197) rfl) rfl
theorem tw_918 : (Jvm.Cond.selects "LeastRueModel" ({ cls := "LeastRueModel", name := "count", desc := "(I)I" } : Jvm.MethodName) ({ cls := "LeastRueModel", name := "count", desc := "(I)I" } : Jvm.MethodName)) ∈ lw_g := tc_4 (List.mem_of_getElem? (i := 198) rfl) rfl
theorem tw_919 : (Jvm.Cond.code ({ cls := "LeastRueModel", name := "count", desc := "(I)I" } : Jvm.MethodName) prog_11_method_24_code (4 : Nat) (Option.some Jvm.ClassFile.FieldType.int)) ∈ lw_g := tc_4 (List.mem_of_getElem? (i := 199) rfl) rfl
theorem tw_920 : (Jvm.Cond.methodLink "LeastRueLaw" (59 : Nat) ({ cls := "LeastRueModel", name := "choice", desc := "(I)I" } : Jvm.MethodName)) ∈ lw_g := tc_4 (List.mem_of_getElem? (i := 200) rfl) rfl
theorem tw_921 : (Jvm.Cond.instanceMethod ({ cls := "LeastRueModel", name := "choice", desc := "(I)I" } : Jvm.MethodName)) ∈ lw_g := tc_4 (List.mem_of_getElem? (i := 201) rfl) rfl
theorem tw_922 : (Jvm.Cond.selects "LeastRueModel" ({ cls := "LeastRueModel", name := "choice", desc := "(I)I" } : Jvm.MethodName) ({ cls := "LeastRueModel", name := "choice", desc := "(I)I" } : Jvm.MethodName)) ∈ lw_g := tc_4 (List.mem_of_getElem? (i := 202) rfl) rfl
theorem tw_923 : (Jvm.Cond.code ({ cls := "LeastRueModel", name := "choice", desc := "(I)I" } : Jvm.MethodName) prog_11_method_26_code (2 : Nat) (Option.some Jvm.ClassFile.FieldType.int)) ∈ lw_g := tc_4 (List.mem_of_getElem? (i := 203) rfl) rfl
theorem tw_924 : (Jvm.Cond.methodLink "LeastRueModel" (121 : Nat) ({ cls := "LeastRueModel", name := "isChoiceNumber", desc := "(I)Z" } : Jvm.MethodName)) ∈ lw_g := tc_4 (List.mem_of_getElem? (i := 204) rfl) rfl
theorem tw_926 : (Jvm.Cond.instanceMethod ({ cls := "LeastRueModel", name := "isChoiceNumber", desc := "(I)Z" } : Jvm.MethodName)) ∈ lw_g := tc_4 (List.mem_of_getElem? (i := 206) rfl) rfl
theorem tw_927 : (Jvm.Cond.code ({ cls := "LeastRueModel", name := "isChoiceNumber", desc := "(I)Z" } : Jvm.MethodName) prog_11_method_25_code (2 : Nat) (Option.some Jvm.ClassFile.FieldType.boolean)) ∈ lw_g := tc_4 (List.mem_of_getElem? (i := 207) rfl) rfl
theorem tw_928 : (Jvm.Cond.methodLink "LeastRueLaw" (63 : Nat) ({ cls := "LeastRueModel", name := "find", desc := "(I)I" } : Jvm.MethodName)) ∈ lw_g := tc_4 (List.mem_of_getElem? (i := 208) rfl) rfl
theorem tw_929 : (Jvm.Cond.instanceMethod ({ cls := "LeastRueModel", name := "find", desc := "(I)I" } : Jvm.MethodName)) ∈ lw_g := tc_4 (List.mem_of_getElem? (i := 209) rfl) rfl
theorem tw_930 : (Jvm.Cond.selects "LeastRueModel" ({ cls := "LeastRueModel", name := "find", desc := "(I)I" } : Jvm.MethodName) ({ cls := "LeastRueModel", name := "find", desc := "(I)I" } : Jvm.MethodName)) ∈ lw_g := tc_4 (List.mem_of_getElem? (i := 210) rfl) rfl
theorem tw_931 : (Jvm.Cond.code ({ cls := "LeastRueModel", name := "find", desc := "(I)I" } : Jvm.MethodName) prog_11_method_27_code (3 : Nat) (Option.some Jvm.ClassFile.FieldType.int)) ∈ lw_g := tc_4 (List.mem_of_getElem? (i := 211) rfl) rfl
theorem tw_932 : (Jvm.Cond.methodLink "LeastRueLaw" (67 : Nat) ({ cls := "LeastRueModel", name := "of", desc := "(II)I" } : Jvm.MethodName)) ∈ lw_g := tc_4 (List.mem_of_getElem? (i := 212) rfl) rfl
theorem tw_933 : (Jvm.Cond.instanceMethod ({ cls := "LeastRueModel", name := "of", desc := "(II)I" } : Jvm.MethodName)) ∈ lw_g := tc_4 (List.mem_of_getElem? (i := 213) rfl) rfl
theorem tw_934 : (Jvm.Cond.selects "LeastRueModel" ({ cls := "LeastRueModel", name := "of", desc := "(II)I" } : Jvm.MethodName) ({ cls := "LeastRueModel", name := "of", desc := "(II)I" } : Jvm.MethodName)) ∈ lw_g := tc_4 (List.mem_of_getElem? (i := 214) rfl) rfl
theorem tw_935 : (Jvm.Cond.code ({ cls := "LeastRueModel", name := "of", desc := "(II)I" } : Jvm.MethodName) prog_11_method_28_code (3 : Nat) (Option.some Jvm.ClassFile.FieldType.int)) ∈ lw_g := tc_4 (List.mem_of_getElem? (i := 215) rfl) rfl
theorem tw_936 : (Jvm.Cond.methodLink "LeastRueLaw" (71 : Nat) ({ cls := "LeastRueModel", name := "cost", desc := "(II)I" } : Jvm.MethodName)) ∈ lw_g := tc_4 (List.mem_of_getElem? (i := 216) rfl) rfl
theorem tw_937 : (Jvm.Cond.instanceMethod ({ cls := "LeastRueModel", name := "cost", desc := "(II)I" } : Jvm.MethodName)) ∈ lw_g := tc_4 (List.mem_of_getElem? (i := 217) rfl) rfl
theorem tw_938 : (Jvm.Cond.selects "LeastRueModel" ({ cls := "LeastRueModel", name := "cost", desc := "(II)I" } : Jvm.MethodName) ({ cls := "LeastRueModel", name := "cost", desc := "(II)I" } : Jvm.MethodName)) ∈ lw_g := tc_4 (List.mem_of_getElem? (i := 218) rfl) rfl
theorem tw_939 : (Jvm.Cond.code ({ cls := "LeastRueModel", name := "cost", desc := "(II)I" } : Jvm.MethodName) prog_11_method_31_code (3 : Nat) (Option.some Jvm.ClassFile.FieldType.int)) ∈ lw_g := tc_4 (List.mem_of_getElem? (i := 219) rfl) rfl
theorem tw_940 : (Jvm.Cond.methodLink "LeastRueModel" (124 : Nat) ({ cls := "LeastRueModel", name := "isSet", desc := "(I)Z" } : Jvm.MethodName)) ∈ lw_g := tc_4 (List.mem_of_getElem? (i := 220) rfl) rfl
theorem tw_942 : (Jvm.Cond.instanceMethod ({ cls := "LeastRueModel", name := "isSet", desc := "(I)Z" } : Jvm.MethodName)) ∈ lw_g := tc_4 (List.mem_of_getElem? (i := 222) rfl) rfl
theorem tw_943 : (Jvm.Cond.code ({ cls := "LeastRueModel", name := "isSet", desc := "(I)Z" } : Jvm.MethodName) prog_11_method_29_code (2 : Nat) (Option.some Jvm.ClassFile.FieldType.boolean)) ∈ lw_g := tc_4 (List.mem_of_getElem? (i := 223) rfl) rfl
theorem tw_944 : (Jvm.Cond.methodLink "LeastRueModel" (127 : Nat) ({ cls := "LeastRueModel", name := "sum", desc := "(II)I" } : Jvm.MethodName)) ∈ lw_g := tc_4 (List.mem_of_getElem? (i := 224) rfl) rfl
theorem tw_946 : (Jvm.Cond.instanceMethod ({ cls := "LeastRueModel", name := "sum", desc := "(II)I" } : Jvm.MethodName)) ∈ lw_g := tc_4 (List.mem_of_getElem? (i := 226) rfl) rfl
theorem tw_947 : (Jvm.Cond.code ({ cls := "LeastRueModel", name := "sum", desc := "(II)I" } : Jvm.MethodName) prog_11_method_30_code (5 : Nat) (Option.some Jvm.ClassFile.FieldType.int)) ∈ lw_g := tc_4 (List.mem_of_getElem? (i := 227) rfl) rfl
theorem tw_948 : (Jvm.Cond.methodLink "LeastRueLaw" (75 : Nat) ({ cls := "LeastRueModel", name := "cheapest", desc := "(I)I" } : Jvm.MethodName)) ∈ lw_g := tc_4 (List.mem_of_getElem? (i := 228) rfl) rfl
theorem tw_949 : (Jvm.Cond.instanceMethod ({ cls := "LeastRueModel", name := "cheapest", desc := "(I)I" } : Jvm.MethodName)) ∈ lw_g := tc_4 (List.mem_of_getElem? (i := 229) rfl) rfl
theorem tw_950 : (Jvm.Cond.selects "LeastRueModel" ({ cls := "LeastRueModel", name := "cheapest", desc := "(I)I" } : Jvm.MethodName) ({ cls := "LeastRueModel", name := "cheapest", desc := "(I)I" } : Jvm.MethodName)) ∈ lw_g := tc_4 (List.mem_of_getElem? (i := 230) rfl) rfl
theorem tw_951 : (Jvm.Cond.code ({ cls := "LeastRueModel", name := "cheapest", desc := "(I)I" } : Jvm.MethodName) prog_11_method_33_code (2 : Nat) (Option.some Jvm.ClassFile.FieldType.int)) ∈ lw_g := tc_4 (List.mem_of_getElem? (i := 231) rfl) rfl
theorem tw_952 : (Jvm.Cond.methodLink "LeastRueModel" (131 : Nat) ({ cls := "LeastRueModel", name := "firstCheapest", desc := "(I)I" } : Jvm.MethodName)) ∈ lw_g := tc_4 (List.mem_of_getElem? (i := 232) rfl) rfl
theorem tw_954 : (Jvm.Cond.instanceMethod ({ cls := "LeastRueModel", name := "firstCheapest", desc := "(I)I" } : Jvm.MethodName)) ∈ lw_g := tc_4 (List.mem_of_getElem? (i := 234) rfl) rfl
theorem tw_955 : (Jvm.Cond.code ({ cls := "LeastRueModel", name := "firstCheapest", desc := "(I)I" } : Jvm.MethodName) prog_11_method_32_code (4 : Nat) (Option.some Jvm.ClassFile.FieldType.int)) ∈ lw_g := tc_4 (List.mem_of_getElem? (i := 235) rfl) rfl
theorem tw_956 : (Jvm.Cond.methodLink "LeastRueLaw" (79 : Nat) ({ cls := "LeastRueModel", name := "rue", desc := "(I)I" } : Jvm.MethodName)) ∈ lw_g := tc_4 (List.mem_of_getElem? (i := 236) rfl) rfl
theorem tw_957 : (Jvm.Cond.instanceMethod ({ cls := "LeastRueModel", name := "rue", desc := "(I)I" } : Jvm.MethodName)) ∈ lw_g := tc_4 (List.mem_of_getElem? (i := 237) rfl) rfl
theorem tw_958 : (Jvm.Cond.selects "LeastRueModel" ({ cls := "LeastRueModel", name := "rue", desc := "(I)I" } : Jvm.MethodName) ({ cls := "LeastRueModel", name := "rue", desc := "(I)I" } : Jvm.MethodName)) ∈ lw_g := tc_4 (List.mem_of_getElem? (i := 238) rfl) rfl
theorem tw_959 : (Jvm.Cond.code ({ cls := "LeastRueModel", name := "rue", desc := "(I)I" } : Jvm.MethodName) prog_11_method_35_code (2 : Nat) (Option.some Jvm.ClassFile.FieldType.int)) ∈ lw_g := tc_4 (List.mem_of_getElem? (i := 239) rfl) rfl
theorem tw_960 : (Jvm.Cond.methodLink "LeastRueModel" (134 : Nat) ({ cls := "LeastRueModel", name := "rueAt", desc := "(I)I" } : Jvm.MethodName)) ∈ lw_g := tc_5 (List.mem_of_getElem? (i := 0) rfl) rfl
theorem tw_962 : (Jvm.Cond.instanceMethod ({ cls := "LeastRueModel", name := "rueAt", desc := "(I)I" } : Jvm.MethodName)) ∈ lw_g := tc_5 (List.mem_of_getElem? (i := 2) rfl) rfl
theorem tw_963 : (Jvm.Cond.code ({ cls := "LeastRueModel", name := "rueAt", desc := "(I)I" } : Jvm.MethodName) prog_11_method_34_code (2 : Nat) (Option.some Jvm.ClassFile.FieldType.int)) ∈ lw_g := tc_5 (List.mem_of_getElem? (i := 3) rfl) rfl
theorem tw_964 : (Jvm.Cond.methodLink "LeastRueLaw" (83 : Nat) ({ cls := "LeastRueModel", name := "rival", desc := "(I)I" } : Jvm.MethodName)) ∈ lw_g := tc_5 (List.mem_of_getElem? (i := 4) rfl) rfl
theorem tw_965 : (Jvm.Cond.instanceMethod ({ cls := "LeastRueModel", name := "rival", desc := "(I)I" } : Jvm.MethodName)) ∈ lw_g := tc_5 (List.mem_of_getElem? (i := 5) rfl) rfl
theorem tw_966 : (Jvm.Cond.selects "LeastRueModel" ({ cls := "LeastRueModel", name := "rival", desc := "(I)I" } : Jvm.MethodName) ({ cls := "LeastRueModel", name := "rival", desc := "(I)I" } : Jvm.MethodName)) ∈ lw_g := tc_5 (List.mem_of_getElem? (i := 6) rfl) rfl
theorem tw_967 : (Jvm.Cond.code ({ cls := "LeastRueModel", name := "rival", desc := "(I)I" } : Jvm.MethodName) prog_11_method_36_code (2 : Nat) (Option.some Jvm.ClassFile.FieldType.int)) ∈ lw_g := tc_5 (List.mem_of_getElem? (i := 7) rfl) rfl
theorem tw_968 : (Jvm.Cond.methodLink "LeastRueLaw" (88 : Nat) ({ cls := "LeastRueModel", name := "best", desc := "()I" } : Jvm.MethodName)) ∈ lw_g := tc_5 (List.mem_of_getElem? (i := 8) rfl) rfl
theorem tw_969 : (Jvm.Cond.instanceMethod ({ cls := "LeastRueModel", name := "best", desc := "()I" } : Jvm.MethodName)) ∈ lw_g := tc_5 (List.mem_of_getElem? (i := 9) rfl) rfl
theorem tw_970 : (Jvm.Cond.selects "LeastRueModel" ({ cls := "LeastRueModel", name := "best", desc := "()I" } : Jvm.MethodName) ({ cls := "LeastRueModel", name := "best", desc := "()I" } : Jvm.MethodName)) ∈ lw_g := tc_5 (List.mem_of_getElem? (i := 10) rfl) rfl
theorem tw_971 : (Jvm.Cond.code ({ cls := "LeastRueModel", name := "best", desc := "()I" } : Jvm.MethodName) prog_11_method_37_code (5 : Nat) (Option.some Jvm.ClassFile.FieldType.int)) ∈ lw_g := tc_5 (List.mem_of_getElem? (i := 11) rfl) rfl
theorem tw_972 : (Jvm.Cond.methodLink "LeastRueLaw" (92 : Nat) ({ cls := "LeastRueModel", name := "many", desc := "()I" } : Jvm.MethodName)) ∈ lw_g := tc_5 (List.mem_of_getElem? (i := 12) rfl) rfl
theorem tw_973 : (Jvm.Cond.instanceMethod ({ cls := "LeastRueModel", name := "many", desc := "()I" } : Jvm.MethodName)) ∈ lw_g := tc_5 (List.mem_of_getElem? (i := 13) rfl) rfl
theorem tw_974 : (Jvm.Cond.selects "LeastRueModel" ({ cls := "LeastRueModel", name := "many", desc := "()I" } : Jvm.MethodName) ({ cls := "LeastRueModel", name := "many", desc := "()I" } : Jvm.MethodName)) ∈ lw_g := tc_5 (List.mem_of_getElem? (i := 14) rfl) rfl
theorem tw_975 : (Jvm.Cond.code ({ cls := "LeastRueModel", name := "many", desc := "()I" } : Jvm.MethodName) prog_11_method_38_code (4 : Nat) (Option.some Jvm.ClassFile.FieldType.int)) ∈ lw_g := tc_5 (List.mem_of_getElem? (i := 15) rfl) rfl
theorem tw_976 : (Jvm.Cond.methodLink "LeastRueModel" (137 : Nat) ({ cls := "LeastRueModel", name := "best", desc := "()I" } : Jvm.MethodName)) ∈ lw_g := tc_5 (List.mem_of_getElem? (i := 16) rfl) rfl
theorem tw_977 : (Jvm.Cond.methodLink "LeastRueLaw" (96 : Nat) ({ cls := "LeastRueModel", name := "middle", desc := "()I" } : Jvm.MethodName)) ∈ lw_g := tc_5 (List.mem_of_getElem? (i := 17) rfl) rfl
theorem tw_978 : (Jvm.Cond.instanceMethod ({ cls := "LeastRueModel", name := "middle", desc := "()I" } : Jvm.MethodName)) ∈ lw_g := tc_5 (List.mem_of_getElem? (i := 18) rfl) rfl
theorem tw_979 : (Jvm.Cond.selects "LeastRueModel" ({ cls := "LeastRueModel", name := "middle", desc := "()I" } : Jvm.MethodName) ({ cls := "LeastRueModel", name := "middle", desc := "()I" } : Jvm.MethodName)) ∈ lw_g := tc_5 (List.mem_of_getElem? (i := 19) rfl) rfl
theorem tw_980 : (Jvm.Cond.code ({ cls := "LeastRueModel", name := "middle", desc := "()I" } : Jvm.MethodName) prog_11_method_39_code (3 : Nat) (Option.some Jvm.ClassFile.FieldType.int)) ∈ lw_g := tc_5 (List.mem_of_getElem? (i := 20) rfl) rfl
theorem tw_981 : (Jvm.Cond.methodLink "LeastRueModel" (140 : Nat) ({ cls := "LeastRueModel", name := "doubled", desc := "(I)I" } : Jvm.MethodName)) ∈ lw_g := tc_5 (List.mem_of_getElem? (i := 21) rfl) rfl
theorem tw_983 : (Jvm.Cond.instanceMethod ({ cls := "LeastRueModel", name := "doubled", desc := "(I)I" } : Jvm.MethodName)) ∈ lw_g := tc_5 (List.mem_of_getElem? (i := 23) rfl) rfl
theorem tw_984 : (Jvm.Cond.code ({ cls := "LeastRueModel", name := "doubled", desc := "(I)I" } : Jvm.MethodName) prog_11_method_40_code (2 : Nat) (Option.some Jvm.ClassFile.FieldType.int)) ∈ lw_g := tc_5 (List.mem_of_getElem? (i := 24) rfl) rfl
theorem tw_985 : (Jvm.Cond.methodLink "LeastRueLaw" (100 : Nat) ({ cls := "LeastRueModel", name := "hold", desc := "(I)I" } : Jvm.MethodName)) ∈ lw_g := tc_5 (List.mem_of_getElem? (i := 25) rfl) rfl
theorem tw_986 : (Jvm.Cond.instanceMethod ({ cls := "LeastRueModel", name := "hold", desc := "(I)I" } : Jvm.MethodName)) ∈ lw_g := tc_5 (List.mem_of_getElem? (i := 26) rfl) rfl
theorem tw_987 : (Jvm.Cond.selects "LeastRueModel" ({ cls := "LeastRueModel", name := "hold", desc := "(I)I" } : Jvm.MethodName) ({ cls := "LeastRueModel", name := "hold", desc := "(I)I" } : Jvm.MethodName)) ∈ lw_g := tc_5 (List.mem_of_getElem? (i := 27) rfl) rfl
theorem tw_988 : (Jvm.Cond.code ({ cls := "LeastRueModel", name := "hold", desc := "(I)I" } : Jvm.MethodName) prog_11_method_42_code (11 : Nat) (Option.some Jvm.ClassFile.FieldType.int)) ∈ lw_g := tc_5 (List.mem_of_getElem? (i := 28) rfl) rfl
theorem tw_989 : (Jvm.Cond.methodLink "LeastRueModel" (144 : Nat) ({ cls := "LeastRueModel", name := "least", desc := "(IZI)I" } : Jvm.MethodName)) ∈ lw_g := tc_5 (List.mem_of_getElem? (i := 29) rfl) rfl
theorem tw_991 : (Jvm.Cond.instanceMethod ({ cls := "LeastRueModel", name := "least", desc := "(IZI)I" } : Jvm.MethodName)) ∈ lw_g := tc_5 (List.mem_of_getElem? (i := 31) rfl) rfl
theorem tw_992 : (Jvm.Cond.code ({ cls := "LeastRueModel", name := "least", desc := "(IZI)I" } : Jvm.MethodName) prog_11_method_41_code (6 : Nat) (Option.some Jvm.ClassFile.FieldType.int)) ∈ lw_g := tc_5 (List.mem_of_getElem? (i := 32) rfl) rfl
theorem tw_993 : (Jvm.Cond.constant "LeastRueModel" (143 : Nat) (1000000 : Int32)) ∈ lw_g := tc_5 (List.mem_of_getElem? (i := 33) rfl) rfl
theorem tw_994 : (Jvm.Cond.methodLink "LeastRueLaw" (104 : Nat) ({ cls := "LeastRueModel", name := "dearest", desc := "(II)I" } : Jvm.MethodName)) ∈ lw_g := tc_5 (List.mem_of_getElem? (i := 34) rfl) rfl
theorem tw_995 : (Jvm.Cond.instanceMethod ({ cls := "LeastRueModel", name := "dearest", desc := "(II)I" } : Jvm.MethodName)) ∈ lw_g := tc_5 (List.mem_of_getElem? (i := 35) rfl) rfl
theorem tw_996 : (Jvm.Cond.selects "LeastRueModel" ({ cls := "LeastRueModel", name := "dearest", desc := "(II)I" } : Jvm.MethodName) ({ cls := "LeastRueModel", name := "dearest", desc := "(II)I" } : Jvm.MethodName)) ∈ lw_g := tc_5 (List.mem_of_getElem? (i := 36) rfl) rfl
theorem tw_997 : (Jvm.Cond.code ({ cls := "LeastRueModel", name := "dearest", desc := "(II)I" } : Jvm.MethodName) prog_11_method_44_code (3 : Nat) (Option.some Jvm.ClassFile.FieldType.int)) ∈ lw_g := tc_5 (List.mem_of_getElem? (i := 37) rfl) rfl
theorem tw_998 : (Jvm.Cond.methodLink "LeastRueModel" (148 : Nat) ({ cls := "LeastRueModel", name := "dearestAt", desc := "(II)I" } : Jvm.MethodName)) ∈ lw_g := tc_5 (List.mem_of_getElem? (i := 38) rfl) rfl
theorem tw_1000 : (Jvm.Cond.instanceMethod ({ cls := "LeastRueModel", name := "dearestAt", desc := "(II)I" } : Jvm.MethodName)) ∈ lw_g := tc_5 (List.mem_of_getElem? (i := 40) rfl) rfl
theorem tw_1001 : (Jvm.Cond.code ({ cls := "LeastRueModel", name := "dearestAt", desc := "(II)I" } : Jvm.MethodName) prog_11_method_43_code (7 : Nat) (Option.some Jvm.ClassFile.FieldType.int)) ∈ lw_g := tc_5 (List.mem_of_getElem? (i := 41) rfl) rfl
theorem tw_1002 : (Jvm.Cond.methodLink "LeastRueLaw" (108 : Nat) ({ cls := "LeastRueModel", name := "few", desc := "(I)I" } : Jvm.MethodName)) ∈ lw_g := tc_5 (List.mem_of_getElem? (i := 42) rfl) rfl
theorem tw_1003 : (Jvm.Cond.instanceMethod ({ cls := "LeastRueModel", name := "few", desc := "(I)I" } : Jvm.MethodName)) ∈ lw_g := tc_5 (List.mem_of_getElem? (i := 43) rfl) rfl
theorem tw_1004 : (Jvm.Cond.selects "LeastRueModel" ({ cls := "LeastRueModel", name := "few", desc := "(I)I" } : Jvm.MethodName) ({ cls := "LeastRueModel", name := "few", desc := "(I)I" } : Jvm.MethodName)) ∈ lw_g := tc_5 (List.mem_of_getElem? (i := 44) rfl) rfl
theorem tw_1005 : (Jvm.Cond.code ({ cls := "LeastRueModel", name := "few", desc := "(I)I" } : Jvm.MethodName) prog_11_method_45_code (4 : Nat) (Option.some Jvm.ClassFile.FieldType.int)) ∈ lw_g := tc_5 (List.mem_of_getElem? (i := 45) rfl) rfl
theorem tw_1006 : (Jvm.Cond.methodLink "LeastRueLaw" (112 : Nat) ({ cls := "LeastRueModel", name := "costIn", desc := "(II)I" } : Jvm.MethodName)) ∈ lw_g := tc_5 (List.mem_of_getElem? (i := 46) rfl) rfl
theorem tw_1007 : (Jvm.Cond.instanceMethod ({ cls := "LeastRueModel", name := "costIn", desc := "(II)I" } : Jvm.MethodName)) ∈ lw_g := tc_5 (List.mem_of_getElem? (i := 47) rfl) rfl
theorem tw_1008 : (Jvm.Cond.selects "LeastRueModel" ({ cls := "LeastRueModel", name := "costIn", desc := "(II)I" } : Jvm.MethodName) ({ cls := "LeastRueModel", name := "costIn", desc := "(II)I" } : Jvm.MethodName)) ∈ lw_g := tc_5 (List.mem_of_getElem? (i := 48) rfl) rfl
theorem tw_1009 : (Jvm.Cond.code ({ cls := "LeastRueModel", name := "costIn", desc := "(II)I" } : Jvm.MethodName) prog_11_method_48_code (3 : Nat) (Option.some Jvm.ClassFile.FieldType.int)) ∈ lw_g := tc_5 (List.mem_of_getElem? (i := 49) rfl) rfl
theorem tw_1010 : (Jvm.Cond.methodLink "LeastRueModel" (151 : Nat) ({ cls := "LeastRueModel", name := "isThere", desc := "(I)Z" } : Jvm.MethodName)) ∈ lw_g := tc_5 (List.mem_of_getElem? (i := 50) rfl) rfl
theorem tw_1012 : (Jvm.Cond.instanceMethod ({ cls := "LeastRueModel", name := "isThere", desc := "(I)Z" } : Jvm.MethodName)) ∈ lw_g := tc_5 (List.mem_of_getElem? (i := 52) rfl) rfl
theorem tw_1013 : (Jvm.Cond.code ({ cls := "LeastRueModel", name := "isThere", desc := "(I)Z" } : Jvm.MethodName) prog_11_method_47_code (2 : Nat) (Option.some Jvm.ClassFile.FieldType.boolean)) ∈ lw_g := tc_5 (List.mem_of_getElem? (i := 53) rfl) rfl
theorem tw_1014 : (Jvm.Cond.methodLink "LeastRueModel" (154 : Nat) ({ cls := "LeastRueModel", name := "sumIn", desc := "(II)I" } : Jvm.MethodName)) ∈ lw_g := tc_5 (List.mem_of_getElem? (i := 54) rfl) rfl
theorem tw_1016 : (Jvm.Cond.instanceMethod ({ cls := "LeastRueModel", name := "sumIn", desc := "(II)I" } : Jvm.MethodName)) ∈ lw_g := tc_5 (List.mem_of_getElem? (i := 56) rfl) rfl
theorem tw_1017 : (Jvm.Cond.code ({ cls := "LeastRueModel", name := "sumIn", desc := "(II)I" } : Jvm.MethodName) prog_11_method_46_code (5 : Nat) (Option.some Jvm.ClassFile.FieldType.int)) ∈ lw_g := tc_5 (List.mem_of_getElem? (i := 57) rfl) rfl
theorem tw_1018 : (Jvm.Cond.methodLink "LeastRueLaw" (116 : Nat) ({ cls := "LeastRueModel", name := "cheapestIn", desc := "(I)I" } : Jvm.MethodName)) ∈ lw_g := tc_5 (List.mem_of_getElem? (i := 58) rfl) rfl
theorem tw_1019 : (Jvm.Cond.instanceMethod ({ cls := "LeastRueModel", name := "cheapestIn", desc := "(I)I" } : Jvm.MethodName)) ∈ lw_g := tc_5 (List.mem_of_getElem? (i := 59) rfl) rfl
theorem tw_1020 : (Jvm.Cond.selects "LeastRueModel" ({ cls := "LeastRueModel", name := "cheapestIn", desc := "(I)I" } : Jvm.MethodName) ({ cls := "LeastRueModel", name := "cheapestIn", desc := "(I)I" } : Jvm.MethodName)) ∈ lw_g := tc_5 (List.mem_of_getElem? (i := 60) rfl) rfl
theorem tw_1021 : (Jvm.Cond.code ({ cls := "LeastRueModel", name := "cheapestIn", desc := "(I)I" } : Jvm.MethodName) prog_11_method_50_code (2 : Nat) (Option.some Jvm.ClassFile.FieldType.int)) ∈ lw_g := tc_5 (List.mem_of_getElem? (i := 61) rfl) rfl
theorem tw_1022 : (Jvm.Cond.methodLink "LeastRueModel" (157 : Nat) ({ cls := "LeastRueModel", name := "firstIn", desc := "(I)I" } : Jvm.MethodName)) ∈ lw_g := tc_5 (List.mem_of_getElem? (i := 62) rfl) rfl
theorem tw_1024 : (Jvm.Cond.instanceMethod ({ cls := "LeastRueModel", name := "firstIn", desc := "(I)I" } : Jvm.MethodName)) ∈ lw_g := tc_5 (List.mem_of_getElem? (i := 64) rfl) rfl
theorem tw_1025 : (Jvm.Cond.code ({ cls := "LeastRueModel", name := "firstIn", desc := "(I)I" } : Jvm.MethodName) prog_11_method_49_code (4 : Nat) (Option.some Jvm.ClassFile.FieldType.int)) ∈ lw_g := tc_5 (List.mem_of_getElem? (i := 65) rfl) rfl
theorem tw_1026 : (Jvm.Cond.methodLink "LeastRueLaw" (120 : Nat) ({ cls := "LeastRueModel", name := "rueOf", desc := "(I)I" } : Jvm.MethodName)) ∈ lw_g := tc_5 (List.mem_of_getElem? (i := 66) rfl) rfl
theorem tw_1027 : (Jvm.Cond.instanceMethod ({ cls := "LeastRueModel", name := "rueOf", desc := "(I)I" } : Jvm.MethodName)) ∈ lw_g := tc_5 (List.mem_of_getElem? (i := 67) rfl) rfl
theorem tw_1028 : (Jvm.Cond.selects "LeastRueModel" ({ cls := "LeastRueModel", name := "rueOf", desc := "(I)I" } : Jvm.MethodName) ({ cls := "LeastRueModel", name := "rueOf", desc := "(I)I" } : Jvm.MethodName)) ∈ lw_g := tc_5 (List.mem_of_getElem? (i := 68) rfl) rfl
theorem tw_1029 : (Jvm.Cond.code ({ cls := "LeastRueModel", name := "rueOf", desc := "(I)I" } : Jvm.MethodName) prog_11_method_52_code (4 : Nat) (Option.some Jvm.ClassFile.FieldType.int)) ∈ lw_g := tc_5 (List.mem_of_getElem? (i := 69) rfl) rfl
theorem tw_1030 : (Jvm.Cond.methodLink "LeastRueModel" (160 : Nat) ({ cls := "LeastRueModel", name := "rueIn", desc := "(II)I" } : Jvm.MethodName)) ∈ lw_g := tc_5 (List.mem_of_getElem? (i := 70) rfl) rfl
theorem tw_1032 : (Jvm.Cond.instanceMethod ({ cls := "LeastRueModel", name := "rueIn", desc := "(II)I" } : Jvm.MethodName)) ∈ lw_g := tc_5 (List.mem_of_getElem? (i := 72) rfl) rfl
theorem tw_1033 : (Jvm.Cond.code ({ cls := "LeastRueModel", name := "rueIn", desc := "(II)I" } : Jvm.MethodName) prog_11_method_51_code (3 : Nat) (Option.some Jvm.ClassFile.FieldType.int)) ∈ lw_g := tc_5 (List.mem_of_getElem? (i := 73) rfl) rfl
theorem tw_1034 : (Jvm.Cond.methodLink "LeastRueLaw" (124 : Nat) ({ cls := "LeastRueModel", name := "bestOf", desc := "()I" } : Jvm.MethodName)) ∈ lw_g := tc_5 (List.mem_of_getElem? (i := 74) rfl) rfl
theorem tw_1035 : (Jvm.Cond.instanceMethod ({ cls := "LeastRueModel", name := "bestOf", desc := "()I" } : Jvm.MethodName)) ∈ lw_g := tc_5 (List.mem_of_getElem? (i := 75) rfl) rfl
theorem tw_1036 : (Jvm.Cond.selects "LeastRueModel" ({ cls := "LeastRueModel", name := "bestOf", desc := "()I" } : Jvm.MethodName) ({ cls := "LeastRueModel", name := "bestOf", desc := "()I" } : Jvm.MethodName)) ∈ lw_g := tc_5 (List.mem_of_getElem? (i := 76) rfl) rfl
theorem tw_1037 : (Jvm.Cond.code ({ cls := "LeastRueModel", name := "bestOf", desc := "()I" } : Jvm.MethodName) prog_11_method_53_code (5 : Nat) (Option.some Jvm.ClassFile.FieldType.int)) ∈ lw_g := tc_5 (List.mem_of_getElem? (i := 77) rfl) rfl
theorem tw_1038 : (Jvm.Cond.methodLink "LeastRueModel" (163 : Nat) ({ cls := "LeastRueModel", name := "rueOf", desc := "(I)I" } : Jvm.MethodName)) ∈ lw_g := tc_5 (List.mem_of_getElem? (i := 78) rfl) rfl
theorem tw_1039 : (Jvm.Cond.methodLink "LeastRueLaw" (128 : Nat) ({ cls := "LeastRueModel", name := "front", desc := "(III)I" } : Jvm.MethodName)) ∈ lw_g := tc_5 (List.mem_of_getElem? (i := 79) rfl) rfl
theorem tw_1040 : (Jvm.Cond.instanceMethod ({ cls := "LeastRueModel", name := "front", desc := "(III)I" } : Jvm.MethodName)) ∈ lw_g := tc_5 (List.mem_of_getElem? (i := 80) rfl) rfl
theorem tw_1041 : (Jvm.Cond.selects "LeastRueModel" ({ cls := "LeastRueModel", name := "front", desc := "(III)I" } : Jvm.MethodName) ({ cls := "LeastRueModel", name := "front", desc := "(III)I" } : Jvm.MethodName)) ∈ lw_g := tc_5 (List.mem_of_getElem? (i := 81) rfl) rfl
theorem tw_1042 : (Jvm.Cond.code ({ cls := "LeastRueModel", name := "front", desc := "(III)I" } : Jvm.MethodName) prog_11_method_55_code (7 : Nat) (Option.some Jvm.ClassFile.FieldType.int)) ∈ lw_g := tc_5 (List.mem_of_getElem? (i := 82) rfl) rfl
theorem tw_1043 : (Jvm.Cond.methodLink "LeastRueModel" (166 : Nat) ({ cls := "LeastRueModel", name := "isFront", desc := "(III)Z" } : Jvm.MethodName)) ∈ lw_g := tc_5 (List.mem_of_getElem? (i := 83) rfl) rfl
theorem tw_1045 : (Jvm.Cond.instanceMethod ({ cls := "LeastRueModel", name := "isFront", desc := "(III)Z" } : Jvm.MethodName)) ∈ lw_g := tc_5 (List.mem_of_getElem? (i := 85) rfl) rfl
theorem tw_1046 : (Jvm.Cond.code ({ cls := "LeastRueModel", name := "isFront", desc := "(III)Z" } : Jvm.MethodName) prog_11_method_54_code (9 : Nat) (Option.some Jvm.ClassFile.FieldType.boolean)) ∈ lw_g := tc_5 (List.mem_of_getElem? (i := 86) rfl) rfl
theorem tw_1047 : (Jvm.Cond.methodLink "LeastRueLaw" (133 : Nat) ({ cls := "LeastRueModel", name := "lots", desc := "(III)J" } : Jvm.MethodName)) ∈ lw_g := tc_5 (List.mem_of_getElem? (i := 87) rfl) rfl
theorem tw_1048 : (Jvm.Cond.instanceMethod ({ cls := "LeastRueModel", name := "lots", desc := "(III)J" } : Jvm.MethodName)) ∈ lw_g := tc_5 (List.mem_of_getElem? (i := 88) rfl) rfl
theorem tw_1049 : (Jvm.Cond.selects "LeastRueModel" ({ cls := "LeastRueModel", name := "lots", desc := "(III)J" } : Jvm.MethodName) ({ cls := "LeastRueModel", name := "lots", desc := "(III)J" } : Jvm.MethodName)) ∈ lw_g := tc_5 (List.mem_of_getElem? (i := 89) rfl) rfl
theorem tw_1050 : (Jvm.Cond.code ({ cls := "LeastRueModel", name := "lots", desc := "(III)J" } : Jvm.MethodName) prog_11_method_58_code (12 : Nat) (Option.some Jvm.ClassFile.FieldType.long)) ∈ lw_g := tc_5 (List.mem_of_getElem? (i := 90) rfl) rfl
theorem tw_1051 : (Jvm.Cond.constantLong "LeastRueModel" (176 : Nat) (-1 : Int64)) ∈ lw_g := tc_5 (List.mem_of_getElem? (i := 91) rfl) rfl
theorem tw_1052 : (Jvm.Cond.constantLong "LeastRueModel" (178 : Nat) (-2 : Int64)) ∈ lw_g := tc_5 (List.mem_of_getElem? (i := 92) rfl) rfl
theorem tw_1053 : (Jvm.Cond.constantLong "LeastRueModel" (180 : Nat) (-6 : Int64)) ∈ lw_g := tc_5 (List.mem_of_getElem? (i := 93) rfl) rfl
theorem tw_1054 : (Jvm.Cond.methodLink "LeastRueModel" (182 : Nat) ({ cls := "LeastRueModel", name := "takesLess", desc := "(JJ)V" } : Jvm.MethodName)) ∈ lw_g := tc_5 (List.mem_of_getElem? (i := 94) rfl) rfl
theorem tw_1056 : (Jvm.Cond.instanceMethod ({ cls := "LeastRueModel", name := "takesLess", desc := "(JJ)V" } : Jvm.MethodName)) ∈ lw_g := tc_5 (List.mem_of_getElem? (i := 96) rfl) rfl
theorem tw_1057 : (Jvm.Cond.code ({ cls := "LeastRueModel", name := "takesLess", desc := "(JJ)V" } : Jvm.MethodName) prog_11_method_57_code (5 : Nat) (Option.none : Option Jvm.ClassFile.FieldType)) ∈ lw_g := tc_5 (List.mem_of_getElem? (i := 97) rfl) rfl
theorem tw_1058 : (Jvm.Cond.methodLink "LeastRueModel" (186 : Nat) ({ cls := "LeastRueModel", name := "gcd", desc := "(JJ)J" } : Jvm.MethodName)) ∈ lw_g := tc_5 (List.mem_of_getElem? (i := 98) rfl) rfl
theorem tw_1059 : (Jvm.Cond.static ({ cls := "LeastRueModel", name := "gcd", desc := "(JJ)J" } : Jvm.MethodName)) ∈ lw_g := tc_5 (List.mem_of_getElem? (i := 99) rfl) rfl
theorem tw_1060 : (Jvm.Cond.code ({ cls := "LeastRueModel", name := "gcd", desc := "(JJ)J" } : Jvm.MethodName) prog_11_method_56_code (10 : Nat) (Option.some Jvm.ClassFile.FieldType.long)) ∈ lw_g := tc_5 (List.mem_of_getElem? (i := 100) rfl) rfl
theorem tw_1061 : (Jvm.Cond.methodLink "LeastRueLaw" (137 : Nat) ({ cls := "LeastRueModel", name := "two", desc := "(I)I" } : Jvm.MethodName)) ∈ lw_g := tc_5 (List.mem_of_getElem? (i := 101) rfl) rfl
theorem tw_1062 : (Jvm.Cond.instanceMethod ({ cls := "LeastRueModel", name := "two", desc := "(I)I" } : Jvm.MethodName)) ∈ lw_g := tc_5 (List.mem_of_getElem? (i := 102) rfl) rfl
theorem tw_1063 : (Jvm.Cond.selects "LeastRueModel" ({ cls := "LeastRueModel", name := "two", desc := "(I)I" } : Jvm.MethodName) ({ cls := "LeastRueModel", name := "two", desc := "(I)I" } : Jvm.MethodName)) ∈ lw_g := tc_5 (List.mem_of_getElem? (i := 103) rfl) rfl
theorem tw_1064 : (Jvm.Cond.code ({ cls := "LeastRueModel", name := "two", desc := "(I)I" } : Jvm.MethodName) prog_11_method_60_code (2 : Nat) (Option.some Jvm.ClassFile.FieldType.int)) ∈ lw_g := tc_5 (List.mem_of_getElem? (i := 104) rfl) rfl
theorem tw_1065 : (Jvm.Cond.methodLink "LeastRueModel" (190 : Nat) ({ cls := "LeastRueModel", name := "twoOf", desc := "(I)I" } : Jvm.MethodName)) ∈ lw_g := tc_5 (List.mem_of_getElem? (i := 105) rfl) rfl
theorem tw_1067 : (Jvm.Cond.instanceMethod ({ cls := "LeastRueModel", name := "twoOf", desc := "(I)I" } : Jvm.MethodName)) ∈ lw_g := tc_5 (List.mem_of_getElem? (i := 107) rfl) rfl
theorem tw_1068 : (Jvm.Cond.code ({ cls := "LeastRueModel", name := "twoOf", desc := "(I)I" } : Jvm.MethodName) prog_11_method_59_code (8 : Nat) (Option.some Jvm.ClassFile.FieldType.int)) ∈ lw_g := tc_5 (List.mem_of_getElem? (i := 108) rfl) rfl
theorem tw_1069 : (Jvm.Cond.methodLink "LeastRueLaw" (141 : Nat) ({ cls := "LeastRueModel", name := "first", desc := "()I" } : Jvm.MethodName)) ∈ lw_g := tc_5 (List.mem_of_getElem? (i := 109) rfl) rfl
theorem tw_1070 : (Jvm.Cond.instanceMethod ({ cls := "LeastRueModel", name := "first", desc := "()I" } : Jvm.MethodName)) ∈ lw_g := tc_5 (List.mem_of_getElem? (i := 110) rfl) rfl
theorem tw_1071 : (Jvm.Cond.selects "LeastRueModel" ({ cls := "LeastRueModel", name := "first", desc := "()I" } : Jvm.MethodName) ({ cls := "LeastRueModel", name := "first", desc := "()I" } : Jvm.MethodName)) ∈ lw_g := tc_5 (List.mem_of_getElem? (i := 111) rfl) rfl
theorem tw_1072 : (Jvm.Cond.code ({ cls := "LeastRueModel", name := "first", desc := "()I" } : Jvm.MethodName) prog_11_method_61_code (5 : Nat) (Option.some Jvm.ClassFile.FieldType.int)) ∈ lw_g := tc_5 (List.mem_of_getElem? (i := 112) rfl) rfl
theorem tw_1073 : (Jvm.Cond.methodLink "LeastRueLaw" (145 : Nat) ({ cls := "LeastRueModel", name := "image", desc := "(I)I" } : Jvm.MethodName)) ∈ lw_g := tc_5 (List.mem_of_getElem? (i := 113) rfl) rfl
theorem tw_1074 : (Jvm.Cond.instanceMethod ({ cls := "LeastRueModel", name := "image", desc := "(I)I" } : Jvm.MethodName)) ∈ lw_g := tc_5 (List.mem_of_getElem? (i := 114) rfl) rfl
theorem tw_1075 : (Jvm.Cond.selects "LeastRueModel" ({ cls := "LeastRueModel", name := "image", desc := "(I)I" } : Jvm.MethodName) ({ cls := "LeastRueModel", name := "image", desc := "(I)I" } : Jvm.MethodName)) ∈ lw_g := tc_5 (List.mem_of_getElem? (i := 115) rfl) rfl
theorem tw_1076 : (Jvm.Cond.code ({ cls := "LeastRueModel", name := "image", desc := "(I)I" } : Jvm.MethodName) prog_11_method_64_code (4 : Nat) (Option.some Jvm.ClassFile.FieldType.int)) ∈ lw_g := tc_5 (List.mem_of_getElem? (i := 116) rfl) rfl
theorem tw_1077 : (Jvm.Cond.methodLink "LeastRueModel" (193 : Nat) ({ cls := "LeastRueModel", name := "keeps", desc := "(I[II)V" } : Jvm.MethodName)) ∈ lw_g := tc_5 (List.mem_of_getElem? (i := 117) rfl) rfl
theorem tw_1079 : (Jvm.Cond.instanceMethod ({ cls := "LeastRueModel", name := "keeps", desc := "(I[II)V" } : Jvm.MethodName)) ∈ lw_g := tc_5 (List.mem_of_getElem? (i := 119) rfl) rfl
theorem tw_1080 : (Jvm.Cond.code ({ cls := "LeastRueModel", name := "keeps", desc := "(I[II)V" } : Jvm.MethodName) prog_11_method_62_code (5 : Nat) (Option.none : Option Jvm.ClassFile.FieldType)) ∈ lw_g := tc_5 (List.mem_of_getElem? (i := 120) rfl) rfl
theorem tw_1081 : (Jvm.Cond.methodLink "LeastRueLaw" (149 : Nat) ({ cls := "LeastRueModel", name := "back", desc := "(I)I" } : Jvm.MethodName)) ∈ lw_g := tc_5 (List.mem_of_getElem? (i := 121) rfl) rfl
theorem tw_1082 : (Jvm.Cond.instanceMethod ({ cls := "LeastRueModel", name := "back", desc := "(I)I" } : Jvm.MethodName)) ∈ lw_g := tc_5 (List.mem_of_getElem? (i := 122) rfl) rfl
theorem tw_1083 : (Jvm.Cond.selects "LeastRueModel" ({ cls := "LeastRueModel", name := "back", desc := "(I)I" } : Jvm.MethodName) ({ cls := "LeastRueModel", name := "back", desc := "(I)I" } : Jvm.MethodName)) ∈ lw_g := tc_5 (List.mem_of_getElem? (i := 123) rfl) rfl
theorem tw_1084 : (Jvm.Cond.code ({ cls := "LeastRueModel", name := "back", desc := "(I)I" } : Jvm.MethodName) prog_11_method_65_code (4 : Nat) (Option.some Jvm.ClassFile.FieldType.int)) ∈ lw_g := tc_5 (List.mem_of_getElem? (i := 124) rfl) rfl
theorem tw_1085 : (Jvm.Cond.methodLink "LeastRueModel" (197 : Nat) ({ cls := "LeastRueModel", name := "brings", desc := "(I[II)V" } : Jvm.MethodName)) ∈ lw_g := tc_5 (List.mem_of_getElem? (i := 125) rfl) rfl
theorem tw_1087 : (Jvm.Cond.instanceMethod ({ cls := "LeastRueModel", name := "brings", desc := "(I[II)V" } : Jvm.MethodName)) ∈ lw_g := tc_5 (List.mem_of_getElem? (i := 127) rfl) rfl
theorem tw_1088 : (Jvm.Cond.code ({ cls := "LeastRueModel", name := "brings", desc := "(I[II)V" } : Jvm.MethodName) prog_11_method_63_code (5 : Nat) (Option.none : Option Jvm.ClassFile.FieldType)) ∈ lw_g := tc_5 (List.mem_of_getElem? (i := 128) rfl) rfl
theorem tw_1089 : (Jvm.Cond.methodLink "LeastRueLaw" (153 : Nat) ({ cls := "LeastRueModel", name := "status", desc := "()I" } : Jvm.MethodName)) ∈ lw_g := tc_5 (List.mem_of_getElem? (i := 129) rfl) rfl
theorem tw_1090 : (Jvm.Cond.instanceMethod ({ cls := "LeastRueModel", name := "status", desc := "()I" } : Jvm.MethodName)) ∈ lw_g := tc_5 (List.mem_of_getElem? (i := 130) rfl) rfl
theorem tw_1091 : (Jvm.Cond.selects "LeastRueModel" ({ cls := "LeastRueModel", name := "status", desc := "()I" } : Jvm.MethodName) ({ cls := "LeastRueModel", name := "status", desc := "()I" } : Jvm.MethodName)) ∈ lw_g := tc_5 (List.mem_of_getElem? (i := 131) rfl) rfl
theorem tw_1092 : (Jvm.Cond.code ({ cls := "LeastRueModel", name := "status", desc := "()I" } : Jvm.MethodName) prog_11_method_66_code (1 : Nat) (Option.some Jvm.ClassFile.FieldType.int)) ∈ lw_g := tc_5 (List.mem_of_getElem? (i := 132) rfl) rfl
