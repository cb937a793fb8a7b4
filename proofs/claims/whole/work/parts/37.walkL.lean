theorem law_end {p : Program} {l : Launch} {e : Env} {s : State} {m : MethodId} {below : List Frame} {meth : Method} {c : Code} {G : Gt} {b0 b : Nat} {S : St} {H : Heap} {locs : List Loc} {ls : Array Slot} {pc : Nat} (hC : CallFix p m c cL_law 4 s #[Value.ref b] lw_g R_law) (hr : meth.sig.returnType = ret) (hlk : meth.locks = false) (hM : MM G b0 s S H locs) (hb0 : s.heap.size = b0 + 1) (hdg : decode cL_law pc = .ok (.ireturn, 1)) : W p l e room_1 s m #[Value.ref b] below meth c H locs 124 17846 (lw_Z below #[Value.ref b] s) (F0 m pc ls [.int 1]) := by
  refine va_forget (fun q hq => ?_) (W.widen (k := 600000) (n := 7302250) (by decide) (by decide) (lw_ret hC.1 hC.2.1 hr hlk hdg))
  have : b0 < q.base := hM.2.2.2.2.2.2.2.2 q hq
  omega
set_option maxHeartbeats 8000000 in
set_option maxRecDepth 100000 in
theorem qL_law_1117 {p : Program} {l : Launch} {e : Env} {s : State} {m : MethodId} {below : List Frame} {meth : Method} {c : Code} {G : Gt} {b0 b L : Nat} {xs : Nat → Int32} (hC : CallFix p m c cL_law 4 s #[Value.ref b] lw_g R_law) (hr : meth.sig.returnType = ret) (hlk : meth.locks = false) (hX : va_X b L xs s s.heap) (hbl : b < s.heap.size) (hbA : ¬ AB b0 b) (hb0 : s.heap.size = b0 + 1) {B18 : Nat → Nat → Int32 → St → Prop} (hB18 : ∀ (x1 : Nat) (x2 : Nat) (x3 : Int32) (S : St) (H : Heap) (locs : List Loc) (ls : Array Slot), B18 x1 x2 x3 S → MM G b0 s S H locs → lv_has ls 4 [(0, .ref b), (1, .ref (b0 + x1)), (2, .ref (b0 + x2)), (3, .int x3)] → W p l e room_1 s m #[Value.ref b] below meth c H locs 124 17846 (lw_Z below #[Value.ref b] s) (F0 m 18 ls [])) : ∀ (x1 : Nat) (x2 : Nat) (x3 : Int32) (S : St) (H : Heap) (locs : List Loc) (ls : Array Slot), wL_law_1117 L xs B18 x1 x2 x3 S → MM G b0 s S H locs → lv_has ls 4 [(0, .ref b), (1, .ref (b0 + x1)), (2, .ref (b0 + x2)), (3, .int x3)] → W p l e room_1 s m #[Value.ref b] below meth c H locs 124 17846 (lw_Z below #[Value.ref b] s) (F0 m 1117 ls []) := by
  intro x1 x2 x3 S H locs ls h hM hl
  unfold wL_law_1117 at h
  obtain ⟨x3_1, ex3_1⟩ : ∃ y : Int32, y = x3 + 4 := ⟨_, rfl⟩
  have h := h x3_1 ex3_1
  refine lv_iinc (v := x3_1) (lv' := [(3, .int x3_1), (0, .ref b), (1, .ref (b0 + x1)), (2, .ref (b0 + x2))]) hC.1 hC.2.1 dL_law_1117 hl (k := 3) rfl (by rw [ex3_1]; rfl) (by decide) rfl (fun ls hl => ?_)
  refine lv_goto (tgt := 18) hC.1 hC.2.1 dL_law_1120 (by decide) ?_
  exact hB18 _ _ _ _ H locs ls h hM (lv_sub hl [1, 2, 3, 0] rfl)
set_option maxHeartbeats 8000000 in
set_option maxRecDepth 100000 in
theorem qL_law_18 {p : Program} {l : Launch} {e : Env} {s : State} {m : MethodId} {below : List Frame} {meth : Method} {c : Code} {G : Gt} {b0 b L : Nat} {xs : Nat → Int32} (hC : CallFix p m c cL_law 4 s #[Value.ref b] lw_g R_law) (hr : meth.sig.returnType = ret) (hlk : meth.locks = false) (hX : va_X b L xs s s.heap) (hbl : b < s.heap.size) (hbA : ¬ AB b0 b) (hb0 : s.heap.size = b0 + 1) : ∀ (n : Nat) (x1 : Nat) (x2 : Nat) (x3 : Int32) (S : St) (H : Heap) (locs : List Loc) (ls : Array Slot), wL_law_18 L xs n x1 x2 x3 S → MM G b0 s S H locs → lv_has ls 4 [(0, .ref b), (1, .ref (b0 + x1)), (2, .ref (b0 + x2)), (3, .int x3)] → W p l e room_1 s m #[Value.ref b] below meth c H locs 124 17846 (lw_Z below #[Value.ref b] s) (F0 m 18 ls []) := by
  intro n
  induction n with
  | zero =>
    intro x1 x2 x3 S H locs ls h
    exact False.elim h
  | succ n ih =>
    intro x1 x2 x3 S H locs ls h hM hl
    rw [wL_law_18] at h
    refine lv_iload_n hC.1 hC.2.1 dL_law_18 rfl (lv_at hl 3 rfl) ?_
    refine lv_aload_n hC.1 hC.2.1 dL_law_19 rfl (lv_at hl 0 rfl) ?_
    refine va_slen hC.1 hC.2.1 hX hbl hbA hM.2.2.2.2.2.2 dL_law_20 ?_
    refine lv_iconst (v := 4) hC.1 hC.2.1 dL_law_21 (by decide) ?_
    refine lv_isub hC.1 hC.2.1 dL_law_22 ?_
    refine lv_icmp_gt (tgt := 1123) hC.1 hC.2.1 dL_law_23 (by decide) (fun c_2 => ?_) (fun c_2 => ?_)
    · have h := h.1 c_2
      refine lv_iconst (v := 1) hC.1 hC.2.1 dL_law_1123 (by decide) ?_
      exact law_end hC hr hlk hM hb0 dL_law_1124
    · have h := h.2 c_2
      refine lv_aload_n hC.1 hC.2.1 dL_law_26 rfl (lv_at hl 0 rfl) ?_
      refine lv_iload_n hC.1 hC.2.1 dL_law_27 rfl (lv_at hl 3 rfl) ?_
      obtain ⟨ok_3, h⟩ := h
      refine va_sld hC.1 hC.2.1 hX hbl hbA hM.2.2.2.2.2.2 ok_3 dL_law_28 ?_
      refine lv_bipush (v := 63) hC.1 hC.2.1 dL_law_29 (by decide) ?_
      refine lv_iand hC.1 hC.2.1 dL_law_31 ?_
      refine mm_sw (lo := 0) (hi := 33) hC.1 hC.2.1 dL_law_32 (by decide) (fun c_4 => ?_) ?_
      · have h := h.1 c_4
        refine ⟨1117, by decide, ?_⟩
        exact qL_law_1117 hC hr hlk hX hbl hbA hb0 ih _ _ _ _ H locs ls h hM (lv_sub hl [0, 1, 2, 3] rfl)
      · intro i hi
        match i, hi with
        | 0, _ =>
          intro c_4
          have h := h.2.1 (c_4.trans (by decide))
          refine ⟨184, by decide, ?_⟩
          refine lv_aload_n hC.1 hC.2.1 dL_law_184 rfl (lv_at hl 1 rfl) ?_
          refine lv_aload_n hC.1 hC.2.1 dL_law_185 rfl (lv_at hl 0 rfl) ?_
          refine lv_iload_n hC.1 hC.2.1 dL_law_186 rfl (lv_at hl 3 rfl) ?_
          refine lv_iconst (v := 1) hC.1 hC.2.1 dL_law_187 (by decide) ?_
          refine lv_iadd hC.1 hC.2.1 dL_law_188 ?_
          obtain ⟨ok_5, h⟩ := h
          refine va_sld hC.1 hC.2.1 hX hbl hbA hM.2.2.2.2.2.2 ok_5 dL_law_189 ?_
          refine lv_aload_n hC.1 hC.2.1 dL_law_190 rfl (lv_at hl 0 rfl) ?_
          refine lv_iload_n hC.1 hC.2.1 dL_law_191 rfl (lv_at hl 3 rfl) ?_
          refine lv_iconst (v := 2) hC.1 hC.2.1 dL_law_192 (by decide) ?_
          refine lv_iadd hC.1 hC.2.1 dL_law_193 ?_
          obtain ⟨ok_6, h⟩ := h
          refine va_sld hC.1 hC.2.1 hX hbl hbA hM.2.2.2.2.2.2 ok_6 dL_law_194 ?_
          obtain ⟨ok_9, h⟩ := h
          refine mm_ri hM (mm_V (As := [.int (xs ((x3 + 1) : Int32).toNatClampNeg), .int (xs ((x3 + 2) : Int32).toNatClampNeg)]) (rest := []) hC hM hl.1 (mX8_thing l G b0 S x1 (xs ((x3 + 1) : Int32).toNatClampNeg) (xs ((x3 + 2) : Int32).toNatClampNeg) _) h (ci := 8) ok_9 rfl rfl kX8_thing tw_333 rfl (by decide) rfl (Nat.le_of_ble_eq_true rfl) dL_law_195 (by decide)) (fun r_8 S_7 H locs h hM => ?_)
          refine lv_aload_n hC.1 hC.2.1 dL_law_198 rfl (lv_at hl 2 rfl) ?_
          refine lv_aload_n hC.1 hC.2.1 dL_law_199 rfl (lv_at hl 0 rfl) ?_
          refine lv_iload_n hC.1 hC.2.1 dL_law_200 rfl (lv_at hl 3 rfl) ?_
          refine lv_iconst (v := 1) hC.1 hC.2.1 dL_law_201 (by decide) ?_
          refine lv_iadd hC.1 hC.2.1 dL_law_202 ?_
          obtain ⟨ok_10, h⟩ := h
          refine va_sld hC.1 hC.2.1 hX hbl hbA hM.2.2.2.2.2.2 ok_10 dL_law_203 ?_
          refine lv_aload_n hC.1 hC.2.1 dL_law_204 rfl (lv_at hl 0 rfl) ?_
          refine lv_iload_n hC.1 hC.2.1 dL_law_205 rfl (lv_at hl 3 rfl) ?_
          refine lv_iconst (v := 2) hC.1 hC.2.1 dL_law_206 (by decide) ?_
          refine lv_iadd hC.1 hC.2.1 dL_law_207 ?_
          obtain ⟨ok_11, h⟩ := h
          refine va_sld hC.1 hC.2.1 hX hbl hbA hM.2.2.2.2.2.2 ok_11 dL_law_208 ?_
          obtain ⟨ok_14, h⟩ := h
          refine mm_ri hM (mm_V (As := [.int (xs ((x3 + 1) : Int32).toNatClampNeg), .int (xs ((x3 + 2) : Int32).toNatClampNeg)]) (rest := [.int r_8]) hC hM hl.1 (mX9_thing l G b0 S_7 x2 (xs ((x3 + 1) : Int32).toNatClampNeg) (xs ((x3 + 2) : Int32).toNatClampNeg) _) h (ci := 9) ok_14 rfl rfl kX9_thing tw_861 rfl (by decide) rfl (Nat.le_of_ble_eq_true rfl) dL_law_209 (by decide)) (fun r_13 S_12 H locs h hM => ?_)
          refine lv_icmp_eq (tgt := 1117) hC.1 hC.2.1 dL_law_212 (by decide) (fun c_15 => ?_) (fun c_15 => ?_)
          · have h := h.1 c_15
            exact qL_law_1117 hC hr hlk hX hbl hbA hb0 ih _ _ _ _ H locs ls h hM (lv_sub hl [0, 1, 2, 3] rfl)
          · have h := h.2 c_15
            refine lv_iconst (v := 0) hC.1 hC.2.1 dL_law_215 (by decide) ?_
            exact False.elim h
        | 1, _ =>
          intro c_4
          have h := h.2.2.1 (c_4.trans (by decide))
          refine ⟨217, by decide, ?_⟩
          refine lv_aload_n hC.1 hC.2.1 dL_law_217 rfl (lv_at hl 1 rfl) ?_
          refine lv_aload_n hC.1 hC.2.1 dL_law_218 rfl (lv_at hl 0 rfl) ?_
          refine lv_iload_n hC.1 hC.2.1 dL_law_219 rfl (lv_at hl 3 rfl) ?_
          refine lv_iconst (v := 1) hC.1 hC.2.1 dL_law_220 (by decide) ?_
          refine lv_iadd hC.1 hC.2.1 dL_law_221 ?_
          obtain ⟨ok_16, h⟩ := h
          refine va_sld hC.1 hC.2.1 hX hbl hbA hM.2.2.2.2.2.2 ok_16 dL_law_222 ?_
          refine lv_aload_n hC.1 hC.2.1 dL_law_223 rfl (lv_at hl 0 rfl) ?_
          refine lv_iload_n hC.1 hC.2.1 dL_law_224 rfl (lv_at hl 3 rfl) ?_
          refine lv_iconst (v := 2) hC.1 hC.2.1 dL_law_225 (by decide) ?_
          refine lv_iadd hC.1 hC.2.1 dL_law_226 ?_
          obtain ⟨ok_17, h⟩ := h
          refine va_sld hC.1 hC.2.1 hX hbl hbA hM.2.2.2.2.2.2 ok_17 dL_law_227 ?_
          refine lv_aload_n hC.1 hC.2.1 dL_law_228 rfl (lv_at hl 0 rfl) ?_
          refine lv_iload_n hC.1 hC.2.1 dL_law_229 rfl (lv_at hl 3 rfl) ?_
          refine lv_iconst (v := 3) hC.1 hC.2.1 dL_law_230 (by decide) ?_
          refine lv_iadd hC.1 hC.2.1 dL_law_231 ?_
          obtain ⟨ok_18, h⟩ := h
          refine va_sld hC.1 hC.2.1 hX hbl hbA hM.2.2.2.2.2.2 ok_18 dL_law_232 ?_
          obtain ⟨ok_21, h⟩ := h
          refine mm_ri hM (mm_V (As := [.int (xs ((x3 + 1) : Int32).toNatClampNeg), .int (xs ((x3 + 2) : Int32).toNatClampNeg), .int (xs ((x3 + 3) : Int32).toNatClampNeg)]) (rest := []) hC hM hl.1 (mX8_ends l G b0 S x1 (xs ((x3 + 1) : Int32).toNatClampNeg) (xs ((x3 + 2) : Int32).toNatClampNeg) (xs ((x3 + 3) : Int32).toNatClampNeg) _) h (ci := 8) ok_21 rfl rfl kX8_ends tw_359 rfl (by decide) rfl (Nat.le_of_ble_eq_true rfl) dL_law_233 (by decide)) (fun r_20 S_19 H locs h hM => ?_)
          refine lv_aload_n hC.1 hC.2.1 dL_law_236 rfl (lv_at hl 2 rfl) ?_
          refine lv_aload_n hC.1 hC.2.1 dL_law_237 rfl (lv_at hl 0 rfl) ?_
          refine lv_iload_n hC.1 hC.2.1 dL_law_238 rfl (lv_at hl 3 rfl) ?_
          refine lv_iconst (v := 1) hC.1 hC.2.1 dL_law_239 (by decide) ?_
          refine lv_iadd hC.1 hC.2.1 dL_law_240 ?_
          obtain ⟨ok_22, h⟩ := h
          refine va_sld hC.1 hC.2.1 hX hbl hbA hM.2.2.2.2.2.2 ok_22 dL_law_241 ?_
          refine lv_aload_n hC.1 hC.2.1 dL_law_242 rfl (lv_at hl 0 rfl) ?_
          refine lv_iload_n hC.1 hC.2.1 dL_law_243 rfl (lv_at hl 3 rfl) ?_
          refine lv_iconst (v := 2) hC.1 hC.2.1 dL_law_244 (by decide) ?_
          refine lv_iadd hC.1 hC.2.1 dL_law_245 ?_
          obtain ⟨ok_23, h⟩ := h
          refine va_sld hC.1 hC.2.1 hX hbl hbA hM.2.2.2.2.2.2 ok_23 dL_law_246 ?_
          refine lv_aload_n hC.1 hC.2.1 dL_law_247 rfl (lv_at hl 0 rfl) ?_
          refine lv_iload_n hC.1 hC.2.1 dL_law_248 rfl (lv_at hl 3 rfl) ?_
          refine lv_iconst (v := 3) hC.1 hC.2.1 dL_law_249 (by decide) ?_
          refine lv_iadd hC.1 hC.2.1 dL_law_250 ?_
          obtain ⟨ok_24, h⟩ := h
          refine va_sld hC.1 hC.2.1 hX hbl hbA hM.2.2.2.2.2.2 ok_24 dL_law_251 ?_
          obtain ⟨ok_27, h⟩ := h
          refine mm_ri hM (mm_V (As := [.int (xs ((x3 + 1) : Int32).toNatClampNeg), .int (xs ((x3 + 2) : Int32).toNatClampNeg), .int (xs ((x3 + 3) : Int32).toNatClampNeg)]) (rest := [.int r_20]) hC hM hl.1 (mX9_ends l G b0 S_19 x2 (xs ((x3 + 1) : Int32).toNatClampNeg) (xs ((x3 + 2) : Int32).toNatClampNeg) (xs ((x3 + 3) : Int32).toNatClampNeg) _) h (ci := 9) ok_27 rfl rfl kX9_ends tw_872 rfl (by decide) rfl (Nat.le_of_ble_eq_true rfl) dL_law_252 (by decide)) (fun r_26 S_25 H locs h hM => ?_)
          refine lv_icmp_eq (tgt := 1117) hC.1 hC.2.1 dL_law_255 (by decide) (fun c_28 => ?_) (fun c_28 => ?_)
          · have h := h.1 c_28
            exact qL_law_1117 hC hr hlk hX hbl hbA hb0 ih _ _ _ _ H locs ls h hM (lv_sub hl [0, 1, 2, 3] rfl)
          · have h := h.2 c_28
            refine lv_iconst (v := 0) hC.1 hC.2.1 dL_law_258 (by decide) ?_
            exact False.elim h
        | 2, _ =>
          intro c_4
          have h := h.2.2.2.1 (c_4.trans (by decide))
          refine ⟨260, by decide, ?_⟩
          refine lv_aload_n hC.1 hC.2.1 dL_law_260 rfl (lv_at hl 1 rfl) ?_
          refine lv_aload_n hC.1 hC.2.1 dL_law_261 rfl (lv_at hl 0 rfl) ?_
          refine lv_iload_n hC.1 hC.2.1 dL_law_262 rfl (lv_at hl 3 rfl) ?_
          refine lv_iconst (v := 1) hC.1 hC.2.1 dL_law_263 (by decide) ?_
          refine lv_iadd hC.1 hC.2.1 dL_law_264 ?_
          obtain ⟨ok_29, h⟩ := h
          refine va_sld hC.1 hC.2.1 hX hbl hbA hM.2.2.2.2.2.2 ok_29 dL_law_265 ?_
          refine lv_aload_n hC.1 hC.2.1 dL_law_266 rfl (lv_at hl 0 rfl) ?_
          refine lv_iload_n hC.1 hC.2.1 dL_law_267 rfl (lv_at hl 3 rfl) ?_
          refine lv_iconst (v := 2) hC.1 hC.2.1 dL_law_268 (by decide) ?_
          refine lv_iadd hC.1 hC.2.1 dL_law_269 ?_
          obtain ⟨ok_30, h⟩ := h
          refine va_sld hC.1 hC.2.1 hX hbl hbA hM.2.2.2.2.2.2 ok_30 dL_law_270 ?_
          refine lv_aload_n hC.1 hC.2.1 dL_law_271 rfl (lv_at hl 0 rfl) ?_
          refine lv_iload_n hC.1 hC.2.1 dL_law_272 rfl (lv_at hl 3 rfl) ?_
          refine lv_iconst (v := 3) hC.1 hC.2.1 dL_law_273 (by decide) ?_
          refine lv_iadd hC.1 hC.2.1 dL_law_274 ?_
          obtain ⟨ok_31, h⟩ := h
          refine va_sld hC.1 hC.2.1 hX hbl hbA hM.2.2.2.2.2.2 ok_31 dL_law_275 ?_
          obtain ⟨ok_34, h⟩ := h
          refine mm_ri hM (mm_V (As := [.int (xs ((x3 + 1) : Int32).toNatClampNeg), .int (xs ((x3 + 2) : Int32).toNatClampNeg), .int (xs ((x3 + 3) : Int32).toNatClampNeg)]) (rest := []) hC hM hl.1 (mX8_posts l G b0 S x1 (xs ((x3 + 1) : Int32).toNatClampNeg) (xs ((x3 + 2) : Int32).toNatClampNeg) (xs ((x3 + 3) : Int32).toNatClampNeg) _) h (ci := 8) ok_34 rfl rfl kX8_posts tw_370 rfl (by decide) rfl (Nat.le_of_ble_eq_true rfl) dL_law_276 (by decide)) (fun r_33 S_32 H locs h hM => ?_)
          refine lv_aload_n hC.1 hC.2.1 dL_law_279 rfl (lv_at hl 2 rfl) ?_
          refine lv_aload_n hC.1 hC.2.1 dL_law_280 rfl (lv_at hl 0 rfl) ?_
          refine lv_iload_n hC.1 hC.2.1 dL_law_281 rfl (lv_at hl 3 rfl) ?_
          refine lv_iconst (v := 1) hC.1 hC.2.1 dL_law_282 (by decide) ?_
          refine lv_iadd hC.1 hC.2.1 dL_law_283 ?_
          obtain ⟨ok_35, h⟩ := h
          refine va_sld hC.1 hC.2.1 hX hbl hbA hM.2.2.2.2.2.2 ok_35 dL_law_284 ?_
          refine lv_aload_n hC.1 hC.2.1 dL_law_285 rfl (lv_at hl 0 rfl) ?_
          refine lv_iload_n hC.1 hC.2.1 dL_law_286 rfl (lv_at hl 3 rfl) ?_
          refine lv_iconst (v := 2) hC.1 hC.2.1 dL_law_287 (by decide) ?_
          refine lv_iadd hC.1 hC.2.1 dL_law_288 ?_
          obtain ⟨ok_36, h⟩ := h
          refine va_sld hC.1 hC.2.1 hX hbl hbA hM.2.2.2.2.2.2 ok_36 dL_law_289 ?_
          refine lv_aload_n hC.1 hC.2.1 dL_law_290 rfl (lv_at hl 0 rfl) ?_
          refine lv_iload_n hC.1 hC.2.1 dL_law_291 rfl (lv_at hl 3 rfl) ?_
          refine lv_iconst (v := 3) hC.1 hC.2.1 dL_law_292 (by decide) ?_
          refine lv_iadd hC.1 hC.2.1 dL_law_293 ?_
          obtain ⟨ok_37, h⟩ := h
          refine va_sld hC.1 hC.2.1 hX hbl hbA hM.2.2.2.2.2.2 ok_37 dL_law_294 ?_
          obtain ⟨ok_40, h⟩ := h
          refine mm_ri hM (mm_V (As := [.int (xs ((x3 + 1) : Int32).toNatClampNeg), .int (xs ((x3 + 2) : Int32).toNatClampNeg), .int (xs ((x3 + 3) : Int32).toNatClampNeg)]) (rest := [.int r_33]) hC hM hl.1 (mX9_posts l G b0 S_32 x2 (xs ((x3 + 1) : Int32).toNatClampNeg) (xs ((x3 + 2) : Int32).toNatClampNeg) (xs ((x3 + 3) : Int32).toNatClampNeg) _) h (ci := 9) ok_40 rfl rfl kX9_posts tw_880 rfl (by decide) rfl (Nat.le_of_ble_eq_true rfl) dL_law_295 (by decide)) (fun r_39 S_38 H locs h hM => ?_)
          refine lv_icmp_eq (tgt := 1117) hC.1 hC.2.1 dL_law_298 (by decide) (fun c_41 => ?_) (fun c_41 => ?_)
          · have h := h.1 c_41
            exact qL_law_1117 hC hr hlk hX hbl hbA hb0 ih _ _ _ _ H locs ls h hM (lv_sub hl [0, 1, 2, 3] rfl)
          · have h := h.2 c_41
            refine lv_iconst (v := 0) hC.1 hC.2.1 dL_law_301 (by decide) ?_
            exact False.elim h
        | 3, _ =>
          intro c_4
          have h := h.2.2.2.2.1 (c_4.trans (by decide))
          refine ⟨303, by decide, ?_⟩
          refine lv_aload_n hC.1 hC.2.1 dL_law_303 rfl (lv_at hl 1 rfl) ?_
          refine lv_aload_n hC.1 hC.2.1 dL_law_304 rfl (lv_at hl 0 rfl) ?_
          refine lv_iload_n hC.1 hC.2.1 dL_law_305 rfl (lv_at hl 3 rfl) ?_
          refine lv_iconst (v := 1) hC.1 hC.2.1 dL_law_306 (by decide) ?_
          refine lv_iadd hC.1 hC.2.1 dL_law_307 ?_
          obtain ⟨ok_42, h⟩ := h
          refine va_sld hC.1 hC.2.1 hX hbl hbA hM.2.2.2.2.2.2 ok_42 dL_law_308 ?_
          refine lv_aload_n hC.1 hC.2.1 dL_law_309 rfl (lv_at hl 0 rfl) ?_
          refine lv_iload_n hC.1 hC.2.1 dL_law_310 rfl (lv_at hl 3 rfl) ?_
          refine lv_iconst (v := 2) hC.1 hC.2.1 dL_law_311 (by decide) ?_
          refine lv_iadd hC.1 hC.2.1 dL_law_312 ?_
          obtain ⟨ok_43, h⟩ := h
          refine va_sld hC.1 hC.2.1 hX hbl hbA hM.2.2.2.2.2.2 ok_43 dL_law_313 ?_
          obtain ⟨ok_46, h⟩ := h
          refine mm_ri hM (mm_V (As := [.int (xs ((x3 + 1) : Int32).toNatClampNeg), .int (xs ((x3 + 2) : Int32).toNatClampNeg)]) (rest := []) hC hM hl.1 (mX8_price l G b0 S x1 (xs ((x3 + 1) : Int32).toNatClampNeg) (xs ((x3 + 2) : Int32).toNatClampNeg) _) h (ci := 8) ok_46 rfl rfl kX8_price tw_374 rfl (by decide) rfl (Nat.le_of_ble_eq_true rfl) dL_law_314 (by decide)) (fun r_45 S_44 H locs h hM => ?_)
          refine lv_aload_n hC.1 hC.2.1 dL_law_317 rfl (lv_at hl 2 rfl) ?_
          refine lv_aload_n hC.1 hC.2.1 dL_law_318 rfl (lv_at hl 0 rfl) ?_
          refine lv_iload_n hC.1 hC.2.1 dL_law_319 rfl (lv_at hl 3 rfl) ?_
          refine lv_iconst (v := 1) hC.1 hC.2.1 dL_law_320 (by decide) ?_
          refine lv_iadd hC.1 hC.2.1 dL_law_321 ?_
          obtain ⟨ok_47, h⟩ := h
          refine va_sld hC.1 hC.2.1 hX hbl hbA hM.2.2.2.2.2.2 ok_47 dL_law_322 ?_
          refine lv_aload_n hC.1 hC.2.1 dL_law_323 rfl (lv_at hl 0 rfl) ?_
          refine lv_iload_n hC.1 hC.2.1 dL_law_324 rfl (lv_at hl 3 rfl) ?_
          refine lv_iconst (v := 2) hC.1 hC.2.1 dL_law_325 (by decide) ?_
          refine lv_iadd hC.1 hC.2.1 dL_law_326 ?_
          obtain ⟨ok_48, h⟩ := h
          refine va_sld hC.1 hC.2.1 hX hbl hbA hM.2.2.2.2.2.2 ok_48 dL_law_327 ?_
          obtain ⟨ok_51, h⟩ := h
          refine mm_ri hM (mm_V (As := [.int (xs ((x3 + 1) : Int32).toNatClampNeg), .int (xs ((x3 + 2) : Int32).toNatClampNeg)]) (rest := [.int r_45]) hC hM hl.1 (mX9_price l G b0 S_44 x2 (xs ((x3 + 1) : Int32).toNatClampNeg) (xs ((x3 + 2) : Int32).toNatClampNeg) _) h (ci := 9) ok_51 rfl rfl kX9_price tw_884 rfl (by decide) rfl (Nat.le_of_ble_eq_true rfl) dL_law_328 (by decide)) (fun r_50 S_49 H locs h hM => ?_)
          refine lv_icmp_eq (tgt := 1117) hC.1 hC.2.1 dL_law_331 (by decide) (fun c_52 => ?_) (fun c_52 => ?_)
          · have h := h.1 c_52
            exact qL_law_1117 hC hr hlk hX hbl hbA hb0 ih _ _ _ _ H locs ls h hM (lv_sub hl [0, 1, 2, 3] rfl)
          · have h := h.2 c_52
            refine lv_iconst (v := 0) hC.1 hC.2.1 dL_law_334 (by decide) ?_
            exact False.elim h
        | 4, _ =>
          intro c_4
          have h := h.2.2.2.2.2.1 (c_4.trans (by decide))
          refine ⟨336, by decide, ?_⟩
          refine lv_aload_n hC.1 hC.2.1 dL_law_336 rfl (lv_at hl 1 rfl) ?_
          refine lv_aload_n hC.1 hC.2.1 dL_law_337 rfl (lv_at hl 0 rfl) ?_
          refine lv_iload_n hC.1 hC.2.1 dL_law_338 rfl (lv_at hl 3 rfl) ?_
          refine lv_iconst (v := 1) hC.1 hC.2.1 dL_law_339 (by decide) ?_
          refine lv_iadd hC.1 hC.2.1 dL_law_340 ?_
          obtain ⟨ok_53, h⟩ := h
          refine va_sld hC.1 hC.2.1 hX hbl hbA hM.2.2.2.2.2.2 ok_53 dL_law_341 ?_
          refine lv_aload_n hC.1 hC.2.1 dL_law_342 rfl (lv_at hl 0 rfl) ?_
          refine lv_iload_n hC.1 hC.2.1 dL_law_343 rfl (lv_at hl 3 rfl) ?_
          refine lv_iconst (v := 2) hC.1 hC.2.1 dL_law_344 (by decide) ?_
          refine lv_iadd hC.1 hC.2.1 dL_law_345 ?_
          obtain ⟨ok_54, h⟩ := h
          refine va_sld hC.1 hC.2.1 hX hbl hbA hM.2.2.2.2.2.2 ok_54 dL_law_346 ?_
          obtain ⟨ok_57, h⟩ := h
          refine mm_ri hM (mm_V (As := [.int (xs ((x3 + 1) : Int32).toNatClampNeg), .int (xs ((x3 + 2) : Int32).toNatClampNeg)]) (rest := []) hC hM hl.1 (mX8_kind l G b0 S x1 (xs ((x3 + 1) : Int32).toNatClampNeg) (xs ((x3 + 2) : Int32).toNatClampNeg) _) h (ci := 8) ok_57 rfl rfl kX8_kind tw_378 rfl (by decide) rfl (Nat.le_of_ble_eq_true rfl) dL_law_347 (by decide)) (fun r_56 S_55 H locs h hM => ?_)
          refine lv_aload_n hC.1 hC.2.1 dL_law_350 rfl (lv_at hl 2 rfl) ?_
          refine lv_aload_n hC.1 hC.2.1 dL_law_351 rfl (lv_at hl 0 rfl) ?_
          refine lv_iload_n hC.1 hC.2.1 dL_law_352 rfl (lv_at hl 3 rfl) ?_
          refine lv_iconst (v := 1) hC.1 hC.2.1 dL_law_353 (by decide) ?_
          refine lv_iadd hC.1 hC.2.1 dL_law_354 ?_
          obtain ⟨ok_58, h⟩ := h
          refine va_sld hC.1 hC.2.1 hX hbl hbA hM.2.2.2.2.2.2 ok_58 dL_law_355 ?_
          refine lv_aload_n hC.1 hC.2.1 dL_law_356 rfl (lv_at hl 0 rfl) ?_
          refine lv_iload_n hC.1 hC.2.1 dL_law_357 rfl (lv_at hl 3 rfl) ?_
          refine lv_iconst (v := 2) hC.1 hC.2.1 dL_law_358 (by decide) ?_
          refine lv_iadd hC.1 hC.2.1 dL_law_359 ?_
          obtain ⟨ok_59, h⟩ := h
          refine va_sld hC.1 hC.2.1 hX hbl hbA hM.2.2.2.2.2.2 ok_59 dL_law_360 ?_
          obtain ⟨ok_62, h⟩ := h
          refine mm_ri hM (mm_V (As := [.int (xs ((x3 + 1) : Int32).toNatClampNeg), .int (xs ((x3 + 2) : Int32).toNatClampNeg)]) (rest := [.int r_56]) hC hM hl.1 (mX9_kind l G b0 S_55 x2 (xs ((x3 + 1) : Int32).toNatClampNeg) (xs ((x3 + 2) : Int32).toNatClampNeg) _) h (ci := 9) ok_62 rfl rfl kX9_kind tw_888 rfl (by decide) rfl (Nat.le_of_ble_eq_true rfl) dL_law_361 (by decide)) (fun r_61 S_60 H locs h hM => ?_)
          refine lv_icmp_eq (tgt := 1117) hC.1 hC.2.1 dL_law_364 (by decide) (fun c_63 => ?_) (fun c_63 => ?_)
          · have h := h.1 c_63
            exact qL_law_1117 hC hr hlk hX hbl hbA hb0 ih _ _ _ _ H locs ls h hM (lv_sub hl [0, 1, 2, 3] rfl)
          · have h := h.2 c_63
            refine lv_iconst (v := 0) hC.1 hC.2.1 dL_law_367 (by decide) ?_
            exact False.elim h
        | 5, _ =>
          intro c_4
          have h := h.2.2.2.2.2.2.1 (c_4.trans (by decide))
          refine ⟨369, by decide, ?_⟩
          refine lv_aload_n hC.1 hC.2.1 dL_law_369 rfl (lv_at hl 1 rfl) ?_
          refine lv_aload_n hC.1 hC.2.1 dL_law_370 rfl (lv_at hl 0 rfl) ?_
          refine lv_iload_n hC.1 hC.2.1 dL_law_371 rfl (lv_at hl 3 rfl) ?_
          refine lv_iconst (v := 1) hC.1 hC.2.1 dL_law_372 (by decide) ?_
          refine lv_iadd hC.1 hC.2.1 dL_law_373 ?_
          obtain ⟨ok_64, h⟩ := h
          refine va_sld hC.1 hC.2.1 hX hbl hbA hM.2.2.2.2.2.2 ok_64 dL_law_374 ?_
          refine lv_aload_n hC.1 hC.2.1 dL_law_375 rfl (lv_at hl 0 rfl) ?_
          refine lv_iload_n hC.1 hC.2.1 dL_law_376 rfl (lv_at hl 3 rfl) ?_
          refine lv_iconst (v := 2) hC.1 hC.2.1 dL_law_377 (by decide) ?_
          refine lv_iadd hC.1 hC.2.1 dL_law_378 ?_
          obtain ⟨ok_65, h⟩ := h
          refine va_sld hC.1 hC.2.1 hX hbl hbA hM.2.2.2.2.2.2 ok_65 dL_law_379 ?_
          refine lv_aload_n hC.1 hC.2.1 dL_law_380 rfl (lv_at hl 0 rfl) ?_
          refine lv_iload_n hC.1 hC.2.1 dL_law_381 rfl (lv_at hl 3 rfl) ?_
          refine lv_iconst (v := 3) hC.1 hC.2.1 dL_law_382 (by decide) ?_
          refine lv_iadd hC.1 hC.2.1 dL_law_383 ?_
          obtain ⟨ok_66, h⟩ := h
          refine va_sld hC.1 hC.2.1 hX hbl hbA hM.2.2.2.2.2.2 ok_66 dL_law_384 ?_
          obtain ⟨ok_69, h⟩ := h
          refine mm_ri hM (mm_V (As := [.int (xs ((x3 + 1) : Int32).toNatClampNeg), .int (xs ((x3 + 2) : Int32).toNatClampNeg), .int (xs ((x3 + 3) : Int32).toNatClampNeg)]) (rest := []) hC hM hl.1 (mX8_sheet l G b0 S x1 (xs ((x3 + 1) : Int32).toNatClampNeg) (xs ((x3 + 2) : Int32).toNatClampNeg) (xs ((x3 + 3) : Int32).toNatClampNeg) _) h (ci := 8) ok_69 rfl rfl kX8_sheet tw_386 rfl (by decide) rfl (Nat.le_of_ble_eq_true rfl) dL_law_385 (by decide)) (fun r_68 S_67 H locs h hM => ?_)
          refine lv_aload_n hC.1 hC.2.1 dL_law_388 rfl (lv_at hl 2 rfl) ?_
          refine lv_aload_n hC.1 hC.2.1 dL_law_389 rfl (lv_at hl 0 rfl) ?_
          refine lv_iload_n hC.1 hC.2.1 dL_law_390 rfl (lv_at hl 3 rfl) ?_
          refine lv_iconst (v := 1) hC.1 hC.2.1 dL_law_391 (by decide) ?_
          refine lv_iadd hC.1 hC.2.1 dL_law_392 ?_
          obtain ⟨ok_70, h⟩ := h
          refine va_sld hC.1 hC.2.1 hX hbl hbA hM.2.2.2.2.2.2 ok_70 dL_law_393 ?_
          refine lv_aload_n hC.1 hC.2.1 dL_law_394 rfl (lv_at hl 0 rfl) ?_
          refine lv_iload_n hC.1 hC.2.1 dL_law_395 rfl (lv_at hl 3 rfl) ?_
          refine lv_iconst (v := 2) hC.1 hC.2.1 dL_law_396 (by decide) ?_
          refine lv_iadd hC.1 hC.2.1 dL_law_397 ?_
          obtain ⟨ok_71, h⟩ := h
          refine va_sld hC.1 hC.2.1 hX hbl hbA hM.2.2.2.2.2.2 ok_71 dL_law_398 ?_
          refine lv_aload_n hC.1 hC.2.1 dL_law_399 rfl (lv_at hl 0 rfl) ?_
          refine lv_iload_n hC.1 hC.2.1 dL_law_400 rfl (lv_at hl 3 rfl) ?_
          refine lv_iconst (v := 3) hC.1 hC.2.1 dL_law_401 (by decide) ?_
          refine lv_iadd hC.1 hC.2.1 dL_law_402 ?_
          obtain ⟨ok_72, h⟩ := h
          refine va_sld hC.1 hC.2.1 hX hbl hbA hM.2.2.2.2.2.2 ok_72 dL_law_403 ?_
          obtain ⟨ok_75, h⟩ := h
          refine mm_ri hM (mm_V (As := [.int (xs ((x3 + 1) : Int32).toNatClampNeg), .int (xs ((x3 + 2) : Int32).toNatClampNeg), .int (xs ((x3 + 3) : Int32).toNatClampNeg)]) (rest := [.int r_68]) hC hM hl.1 (mX9_sheet l G b0 S_67 x2 (xs ((x3 + 1) : Int32).toNatClampNeg) (xs ((x3 + 2) : Int32).toNatClampNeg) (xs ((x3 + 3) : Int32).toNatClampNeg) _) h (ci := 9) ok_75 rfl rfl kX9_sheet tw_892 rfl (by decide) rfl (Nat.le_of_ble_eq_true rfl) dL_law_404 (by decide)) (fun r_74 S_73 H locs h hM => ?_)
          refine lv_icmp_eq (tgt := 1117) hC.1 hC.2.1 dL_law_407 (by decide) (fun c_76 => ?_) (fun c_76 => ?_)
          · have h := h.1 c_76
            exact qL_law_1117 hC hr hlk hX hbl hbA hb0 ih _ _ _ _ H locs ls h hM (lv_sub hl [0, 1, 2, 3] rfl)
          · have h := h.2 c_76
            refine lv_iconst (v := 0) hC.1 hC.2.1 dL_law_410 (by decide) ?_
            exact False.elim h
        | 6, _ =>
          intro c_4
          have h := h.2.2.2.2.2.2.2.1 (c_4.trans (by decide))
          refine ⟨412, by decide, ?_⟩
          refine lv_aload_n hC.1 hC.2.1 dL_law_412 rfl (lv_at hl 1 rfl) ?_
          refine lv_aload_n hC.1 hC.2.1 dL_law_413 rfl (lv_at hl 0 rfl) ?_
          refine lv_iload_n hC.1 hC.2.1 dL_law_414 rfl (lv_at hl 3 rfl) ?_
          refine lv_iconst (v := 1) hC.1 hC.2.1 dL_law_415 (by decide) ?_
          refine lv_iadd hC.1 hC.2.1 dL_law_416 ?_
          obtain ⟨ok_77, h⟩ := h
          refine va_sld hC.1 hC.2.1 hX hbl hbA hM.2.2.2.2.2.2 ok_77 dL_law_417 ?_
          refine lv_aload_n hC.1 hC.2.1 dL_law_418 rfl (lv_at hl 0 rfl) ?_
          refine lv_iload_n hC.1 hC.2.1 dL_law_419 rfl (lv_at hl 3 rfl) ?_
          refine lv_iconst (v := 2) hC.1 hC.2.1 dL_law_420 (by decide) ?_
          refine lv_iadd hC.1 hC.2.1 dL_law_421 ?_
          obtain ⟨ok_78, h⟩ := h
          refine va_sld hC.1 hC.2.1 hX hbl hbA hM.2.2.2.2.2.2 ok_78 dL_law_422 ?_
          refine lv_aload_n hC.1 hC.2.1 dL_law_423 rfl (lv_at hl 0 rfl) ?_
          refine lv_iload_n hC.1 hC.2.1 dL_law_424 rfl (lv_at hl 3 rfl) ?_
          refine lv_iconst (v := 3) hC.1 hC.2.1 dL_law_425 (by decide) ?_
          refine lv_iadd hC.1 hC.2.1 dL_law_426 ?_
          obtain ⟨ok_79, h⟩ := h
          refine va_sld hC.1 hC.2.1 hX hbl hbA hM.2.2.2.2.2.2 ok_79 dL_law_427 ?_
          obtain ⟨ok_82, h⟩ := h
          refine mm_ri hM (mm_V (As := [.int (xs ((x3 + 1) : Int32).toNatClampNeg), .int (xs ((x3 + 2) : Int32).toNatClampNeg), .int (xs ((x3 + 3) : Int32).toNatClampNeg)]) (rest := []) hC hM hl.1 (mX8_write l G b0 S x1 (xs ((x3 + 1) : Int32).toNatClampNeg) (xs ((x3 + 2) : Int32).toNatClampNeg) (xs ((x3 + 3) : Int32).toNatClampNeg) _) h (ci := 8) ok_82 rfl rfl kX8_write tw_401 rfl (by decide) rfl (Nat.le_of_ble_eq_true rfl) dL_law_428 (by decide)) (fun r_81 S_80 H locs h hM => ?_)
          refine lv_aload_n hC.1 hC.2.1 dL_law_431 rfl (lv_at hl 2 rfl) ?_
          refine lv_aload_n hC.1 hC.2.1 dL_law_432 rfl (lv_at hl 0 rfl) ?_
          refine lv_iload_n hC.1 hC.2.1 dL_law_433 rfl (lv_at hl 3 rfl) ?_
          refine lv_iconst (v := 1) hC.1 hC.2.1 dL_law_434 (by decide) ?_
          refine lv_iadd hC.1 hC.2.1 dL_law_435 ?_
          obtain ⟨ok_83, h⟩ := h
          refine va_sld hC.1 hC.2.1 hX hbl hbA hM.2.2.2.2.2.2 ok_83 dL_law_436 ?_
          refine lv_aload_n hC.1 hC.2.1 dL_law_437 rfl (lv_at hl 0 rfl) ?_
          refine lv_iload_n hC.1 hC.2.1 dL_law_438 rfl (lv_at hl 3 rfl) ?_
          refine lv_iconst (v := 2) hC.1 hC.2.1 dL_law_439 (by decide) ?_
          refine lv_iadd hC.1 hC.2.1 dL_law_440 ?_
          obtain ⟨ok_84, h⟩ := h
          refine va_sld hC.1 hC.2.1 hX hbl hbA hM.2.2.2.2.2.2 ok_84 dL_law_441 ?_
          refine lv_aload_n hC.1 hC.2.1 dL_law_442 rfl (lv_at hl 0 rfl) ?_
          refine lv_iload_n hC.1 hC.2.1 dL_law_443 rfl (lv_at hl 3 rfl) ?_
          refine lv_iconst (v := 3) hC.1 hC.2.1 dL_law_444 (by decide) ?_
          refine lv_iadd hC.1 hC.2.1 dL_law_445 ?_
          obtain ⟨ok_85, h⟩ := h
          refine va_sld hC.1 hC.2.1 hX hbl hbA hM.2.2.2.2.2.2 ok_85 dL_law_446 ?_
          obtain ⟨ok_88, h⟩ := h
          refine mm_ri hM (mm_V (As := [.int (xs ((x3 + 1) : Int32).toNatClampNeg), .int (xs ((x3 + 2) : Int32).toNatClampNeg), .int (xs ((x3 + 3) : Int32).toNatClampNeg)]) (rest := [.int r_81]) hC hM hl.1 (mX9_write l G b0 S_80 x2 (xs ((x3 + 1) : Int32).toNatClampNeg) (xs ((x3 + 2) : Int32).toNatClampNeg) (xs ((x3 + 3) : Int32).toNatClampNeg) _) h (ci := 9) ok_88 rfl rfl kX9_write tw_896 rfl (by decide) rfl (Nat.le_of_ble_eq_true rfl) dL_law_447 (by decide)) (fun r_87 S_86 H locs h hM => ?_)
          refine lv_icmp_eq (tgt := 1117) hC.1 hC.2.1 dL_law_450 (by decide) (fun c_89 => ?_) (fun c_89 => ?_)
          · have h := h.1 c_89
            exact qL_law_1117 hC hr hlk hX hbl hbA hb0 ih _ _ _ _ H locs ls h hM (lv_sub hl [0, 1, 2, 3] rfl)
          · have h := h.2 c_89
            refine lv_iconst (v := 0) hC.1 hC.2.1 dL_law_453 (by decide) ?_
            exact False.elim h
        | 7, _ =>
          intro c_4
          have h := h.2.2.2.2.2.2.2.2.1 (c_4.trans (by decide))
          refine ⟨455, by decide, ?_⟩
          refine lv_aload_n hC.1 hC.2.1 dL_law_455 rfl (lv_at hl 1 rfl) ?_
          refine lv_aload_n hC.1 hC.2.1 dL_law_456 rfl (lv_at hl 0 rfl) ?_
          refine lv_iload_n hC.1 hC.2.1 dL_law_457 rfl (lv_at hl 3 rfl) ?_
          refine lv_iconst (v := 1) hC.1 hC.2.1 dL_law_458 (by decide) ?_
          refine lv_iadd hC.1 hC.2.1 dL_law_459 ?_
          obtain ⟨ok_90, h⟩ := h
          refine va_sld hC.1 hC.2.1 hX hbl hbA hM.2.2.2.2.2.2 ok_90 dL_law_460 ?_
          refine lv_aload_n hC.1 hC.2.1 dL_law_461 rfl (lv_at hl 0 rfl) ?_
          refine lv_iload_n hC.1 hC.2.1 dL_law_462 rfl (lv_at hl 3 rfl) ?_
          refine lv_iconst (v := 2) hC.1 hC.2.1 dL_law_463 (by decide) ?_
          refine lv_iadd hC.1 hC.2.1 dL_law_464 ?_
          obtain ⟨ok_91, h⟩ := h
          refine va_sld hC.1 hC.2.1 hX hbl hbA hM.2.2.2.2.2.2 ok_91 dL_law_465 ?_
          refine lv_aload_n hC.1 hC.2.1 dL_law_466 rfl (lv_at hl 0 rfl) ?_
          refine lv_iload_n hC.1 hC.2.1 dL_law_467 rfl (lv_at hl 3 rfl) ?_
          refine lv_iconst (v := 3) hC.1 hC.2.1 dL_law_468 (by decide) ?_
          refine lv_iadd hC.1 hC.2.1 dL_law_469 ?_
          obtain ⟨ok_92, h⟩ := h
          refine va_sld hC.1 hC.2.1 hX hbl hbA hM.2.2.2.2.2.2 ok_92 dL_law_470 ?_
          obtain ⟨ok_95, h⟩ := h
          refine mm_ri hM (mm_V (As := [.int (xs ((x3 + 1) : Int32).toNatClampNeg), .int (xs ((x3 + 2) : Int32).toNatClampNeg), .int (xs ((x3 + 3) : Int32).toNatClampNeg)]) (rest := []) hC hM hl.1 (mX8_world l G b0 S x1 (xs ((x3 + 1) : Int32).toNatClampNeg) (xs ((x3 + 2) : Int32).toNatClampNeg) (xs ((x3 + 3) : Int32).toNatClampNeg) _) h (ci := 8) ok_95 rfl rfl kX8_world tw_417 rfl (by decide) rfl (Nat.le_of_ble_eq_true rfl) dL_law_471 (by decide)) (fun r_94 S_93 H locs h hM => ?_)
          refine lv_aload_n hC.1 hC.2.1 dL_law_474 rfl (lv_at hl 2 rfl) ?_
          refine lv_aload_n hC.1 hC.2.1 dL_law_475 rfl (lv_at hl 0 rfl) ?_
          refine lv_iload_n hC.1 hC.2.1 dL_law_476 rfl (lv_at hl 3 rfl) ?_
          refine lv_iconst (v := 1) hC.1 hC.2.1 dL_law_477 (by decide) ?_
          refine lv_iadd hC.1 hC.2.1 dL_law_478 ?_
          obtain ⟨ok_96, h⟩ := h
          refine va_sld hC.1 hC.2.1 hX hbl hbA hM.2.2.2.2.2.2 ok_96 dL_law_479 ?_
          refine lv_aload_n hC.1 hC.2.1 dL_law_480 rfl (lv_at hl 0 rfl) ?_
          refine lv_iload_n hC.1 hC.2.1 dL_law_481 rfl (lv_at hl 3 rfl) ?_
          refine lv_iconst (v := 2) hC.1 hC.2.1 dL_law_482 (by decide) ?_
          refine lv_iadd hC.1 hC.2.1 dL_law_483 ?_
          obtain ⟨ok_97, h⟩ := h
          refine va_sld hC.1 hC.2.1 hX hbl hbA hM.2.2.2.2.2.2 ok_97 dL_law_484 ?_
          refine lv_aload_n hC.1 hC.2.1 dL_law_485 rfl (lv_at hl 0 rfl) ?_
          refine lv_iload_n hC.1 hC.2.1 dL_law_486 rfl (lv_at hl 3 rfl) ?_
          refine lv_iconst (v := 3) hC.1 hC.2.1 dL_law_487 (by decide) ?_
          refine lv_iadd hC.1 hC.2.1 dL_law_488 ?_
          obtain ⟨ok_98, h⟩ := h
          refine va_sld hC.1 hC.2.1 hX hbl hbA hM.2.2.2.2.2.2 ok_98 dL_law_489 ?_
          obtain ⟨ok_101, h⟩ := h
          refine mm_ri hM (mm_V (As := [.int (xs ((x3 + 1) : Int32).toNatClampNeg), .int (xs ((x3 + 2) : Int32).toNatClampNeg), .int (xs ((x3 + 3) : Int32).toNatClampNeg)]) (rest := [.int r_94]) hC hM hl.1 (mX9_world l G b0 S_93 x2 (xs ((x3 + 1) : Int32).toNatClampNeg) (xs ((x3 + 2) : Int32).toNatClampNeg) (xs ((x3 + 3) : Int32).toNatClampNeg) _) h (ci := 9) ok_101 rfl rfl kX9_world tw_900 rfl (by decide) rfl (Nat.le_of_ble_eq_true rfl) dL_law_490 (by decide)) (fun r_100 S_99 H locs h hM => ?_)
          refine lv_icmp_eq (tgt := 1117) hC.1 hC.2.1 dL_law_493 (by decide) (fun c_102 => ?_) (fun c_102 => ?_)
          · have h := h.1 c_102
            exact qL_law_1117 hC hr hlk hX hbl hbA hb0 ih _ _ _ _ H locs ls h hM (lv_sub hl [0, 1, 2, 3] rfl)
          · have h := h.2 c_102
            refine lv_iconst (v := 0) hC.1 hC.2.1 dL_law_496 (by decide) ?_
            exact False.elim h
        | 8, _ =>
          intro c_4
          have h := h.2.2.2.2.2.2.2.2.2.1 (c_4.trans (by decide))
          refine ⟨498, by decide, ?_⟩
          refine lv_aload_n hC.1 hC.2.1 dL_law_498 rfl (lv_at hl 1 rfl) ?_
          refine lv_aload_n hC.1 hC.2.1 dL_law_499 rfl (lv_at hl 0 rfl) ?_
          refine lv_iload_n hC.1 hC.2.1 dL_law_500 rfl (lv_at hl 3 rfl) ?_
          refine lv_iconst (v := 1) hC.1 hC.2.1 dL_law_501 (by decide) ?_
          refine lv_iadd hC.1 hC.2.1 dL_law_502 ?_
          obtain ⟨ok_103, h⟩ := h
          refine va_sld hC.1 hC.2.1 hX hbl hbA hM.2.2.2.2.2.2 ok_103 dL_law_503 ?_
          obtain ⟨ok_106, h⟩ := h
          refine mm_ri hM (mm_V (As := [.int (xs ((x3 + 1) : Int32).toNatClampNeg)]) (rest := []) hC hM hl.1 (mX8_forget l G b0 S x1 (xs ((x3 + 1) : Int32).toNatClampNeg) _) h (ci := 8) ok_106 rfl rfl kX8_forget tw_431 rfl (by decide) rfl (Nat.le_of_ble_eq_true rfl) dL_law_504 (by decide)) (fun r_105 S_104 H locs h hM => ?_)
          refine lv_aload_n hC.1 hC.2.1 dL_law_507 rfl (lv_at hl 2 rfl) ?_
          refine lv_aload_n hC.1 hC.2.1 dL_law_508 rfl (lv_at hl 0 rfl) ?_
          refine lv_iload_n hC.1 hC.2.1 dL_law_509 rfl (lv_at hl 3 rfl) ?_
          refine lv_iconst (v := 1) hC.1 hC.2.1 dL_law_510 (by decide) ?_
          refine lv_iadd hC.1 hC.2.1 dL_law_511 ?_
          obtain ⟨ok_107, h⟩ := h
          refine va_sld hC.1 hC.2.1 hX hbl hbA hM.2.2.2.2.2.2 ok_107 dL_law_512 ?_
          obtain ⟨ok_110, h⟩ := h
          refine mm_ri hM (mm_V (As := [.int (xs ((x3 + 1) : Int32).toNatClampNeg)]) (rest := [.int r_105]) hC hM hl.1 (mX9_forget l G b0 S_104 x2 (xs ((x3 + 1) : Int32).toNatClampNeg) _) h (ci := 9) ok_110 rfl rfl kX9_forget tw_912 rfl (by decide) rfl (Nat.le_of_ble_eq_true rfl) dL_law_513 (by decide)) (fun r_109 S_108 H locs h hM => ?_)
          refine lv_icmp_eq (tgt := 1117) hC.1 hC.2.1 dL_law_516 (by decide) (fun c_111 => ?_) (fun c_111 => ?_)
          · have h := h.1 c_111
            exact qL_law_1117 hC hr hlk hX hbl hbA hb0 ih _ _ _ _ H locs ls h hM (lv_sub hl [0, 1, 2, 3] rfl)
          · have h := h.2 c_111
            refine lv_iconst (v := 0) hC.1 hC.2.1 dL_law_519 (by decide) ?_
            exact False.elim h
        | 9, _ =>
          intro c_4
          have h := h.2.2.2.2.2.2.2.2.2.2.1 (c_4.trans (by decide))
          refine ⟨521, by decide, ?_⟩
          refine lv_aload_n hC.1 hC.2.1 dL_law_521 rfl (lv_at hl 1 rfl) ?_
          refine lv_aload_n hC.1 hC.2.1 dL_law_522 rfl (lv_at hl 0 rfl) ?_
          refine lv_iload_n hC.1 hC.2.1 dL_law_523 rfl (lv_at hl 3 rfl) ?_
          refine lv_iconst (v := 1) hC.1 hC.2.1 dL_law_524 (by decide) ?_
          refine lv_iadd hC.1 hC.2.1 dL_law_525 ?_
          obtain ⟨ok_112, h⟩ := h
          refine va_sld hC.1 hC.2.1 hX hbl hbA hM.2.2.2.2.2.2 ok_112 dL_law_526 ?_
          obtain ⟨ok_115, h⟩ := h
          refine mm_ri hM (mm_V (As := [.int (xs ((x3 + 1) : Int32).toNatClampNeg)]) (rest := []) hC hM hl.1 (mX8_count l G b0 S x1 (xs ((x3 + 1) : Int32).toNatClampNeg) _) h (ci := 8) ok_115 rfl rfl kX8_count tw_440 rfl (by decide) rfl (Nat.le_of_ble_eq_true rfl) dL_law_527 (by decide)) (fun r_114 S_113 H locs h hM => ?_)
          refine lv_aload_n hC.1 hC.2.1 dL_law_530 rfl (lv_at hl 2 rfl) ?_
          refine lv_aload_n hC.1 hC.2.1 dL_law_531 rfl (lv_at hl 0 rfl) ?_
          refine lv_iload_n hC.1 hC.2.1 dL_law_532 rfl (lv_at hl 3 rfl) ?_
          refine lv_iconst (v := 1) hC.1 hC.2.1 dL_law_533 (by decide) ?_
          refine lv_iadd hC.1 hC.2.1 dL_law_534 ?_
          obtain ⟨ok_116, h⟩ := h
          refine va_sld hC.1 hC.2.1 hX hbl hbA hM.2.2.2.2.2.2 ok_116 dL_law_535 ?_
          obtain ⟨ok_119, h⟩ := h
          refine mm_ri hM (mm_V (As := [.int (xs ((x3 + 1) : Int32).toNatClampNeg)]) (rest := [.int r_114]) hC hM hl.1 (mX9_count l G b0 S_113 x2 (xs ((x3 + 1) : Int32).toNatClampNeg) _) h (ci := 9) ok_119 rfl rfl kX9_count tw_916 rfl (by decide) rfl (Nat.le_of_ble_eq_true rfl) dL_law_536 (by decide)) (fun r_118 S_117 H locs h hM => ?_)
          refine lv_icmp_eq (tgt := 1117) hC.1 hC.2.1 dL_law_539 (by decide) (fun c_120 => ?_) (fun c_120 => ?_)
          · have h := h.1 c_120
            exact qL_law_1117 hC hr hlk hX hbl hbA hb0 ih _ _ _ _ H locs ls h hM (lv_sub hl [0, 1, 2, 3] rfl)
          · have h := h.2 c_120
            refine lv_iconst (v := 0) hC.1 hC.2.1 dL_law_542 (by decide) ?_
            exact False.elim h
        | 10, _ =>
          intro c_4
          have h := h.2.2.2.2.2.2.2.2.2.2.2.1 (c_4.trans (by decide))
          refine ⟨544, by decide, ?_⟩
          refine lv_aload_n hC.1 hC.2.1 dL_law_544 rfl (lv_at hl 1 rfl) ?_
          refine lv_aload_n hC.1 hC.2.1 dL_law_545 rfl (lv_at hl 0 rfl) ?_
          refine lv_iload_n hC.1 hC.2.1 dL_law_546 rfl (lv_at hl 3 rfl) ?_
          refine lv_iconst (v := 1) hC.1 hC.2.1 dL_law_547 (by decide) ?_
          refine lv_iadd hC.1 hC.2.1 dL_law_548 ?_
          obtain ⟨ok_121, h⟩ := h
          refine va_sld hC.1 hC.2.1 hX hbl hbA hM.2.2.2.2.2.2 ok_121 dL_law_549 ?_
          obtain ⟨ok_124, h⟩ := h
          refine mm_ri hM (mm_V (As := [.int (xs ((x3 + 1) : Int32).toNatClampNeg)]) (rest := []) hC hM hl.1 (mX8_choice l G b0 S x1 (xs ((x3 + 1) : Int32).toNatClampNeg) _) h (ci := 8) ok_124 rfl rfl kX8_choice tw_448 rfl (by decide) rfl (Nat.le_of_ble_eq_true rfl) dL_law_550 (by decide)) (fun r_123 S_122 H locs h hM => ?_)
          refine lv_aload_n hC.1 hC.2.1 dL_law_553 rfl (lv_at hl 2 rfl) ?_
          refine lv_aload_n hC.1 hC.2.1 dL_law_554 rfl (lv_at hl 0 rfl) ?_
          refine lv_iload_n hC.1 hC.2.1 dL_law_555 rfl (lv_at hl 3 rfl) ?_
          refine lv_iconst (v := 1) hC.1 hC.2.1 dL_law_556 (by decide) ?_
          refine lv_iadd hC.1 hC.2.1 dL_law_557 ?_
          obtain ⟨ok_125, h⟩ := h
          refine va_sld hC.1 hC.2.1 hX hbl hbA hM.2.2.2.2.2.2 ok_125 dL_law_558 ?_
          obtain ⟨ok_128, h⟩ := h
          refine mm_ri hM (mm_V (As := [.int (xs ((x3 + 1) : Int32).toNatClampNeg)]) (rest := [.int r_123]) hC hM hl.1 (mX9_choice l G b0 S_122 x2 (xs ((x3 + 1) : Int32).toNatClampNeg) _) h (ci := 9) ok_128 rfl rfl kX9_choice tw_920 rfl (by decide) rfl (Nat.le_of_ble_eq_true rfl) dL_law_559 (by decide)) (fun r_127 S_126 H locs h hM => ?_)
          refine lv_icmp_eq (tgt := 1117) hC.1 hC.2.1 dL_law_562 (by decide) (fun c_129 => ?_) (fun c_129 => ?_)
          · have h := h.1 c_129
            exact qL_law_1117 hC hr hlk hX hbl hbA hb0 ih _ _ _ _ H locs ls h hM (lv_sub hl [0, 1, 2, 3] rfl)
          · have h := h.2 c_129
            refine lv_iconst (v := 0) hC.1 hC.2.1 dL_law_565 (by decide) ?_
            exact False.elim h
        | 11, _ =>
          intro c_4
          have h := h.2.2.2.2.2.2.2.2.2.2.2.2.1 (c_4.trans (by decide))
          refine ⟨567, by decide, ?_⟩
          refine lv_aload_n hC.1 hC.2.1 dL_law_567 rfl (lv_at hl 1 rfl) ?_
          refine lv_aload_n hC.1 hC.2.1 dL_law_568 rfl (lv_at hl 0 rfl) ?_
          refine lv_iload_n hC.1 hC.2.1 dL_law_569 rfl (lv_at hl 3 rfl) ?_
          refine lv_iconst (v := 1) hC.1 hC.2.1 dL_law_570 (by decide) ?_
          refine lv_iadd hC.1 hC.2.1 dL_law_571 ?_
          obtain ⟨ok_130, h⟩ := h
          refine va_sld hC.1 hC.2.1 hX hbl hbA hM.2.2.2.2.2.2 ok_130 dL_law_572 ?_
          obtain ⟨ok_133, h⟩ := h
          refine mm_ri hM (mm_V (As := [.int (xs ((x3 + 1) : Int32).toNatClampNeg)]) (rest := []) hC hM hl.1 (mX8_find l G b0 S x1 (xs ((x3 + 1) : Int32).toNatClampNeg) _) h (ci := 8) ok_133 rfl rfl kX8_find tw_457 rfl (by decide) rfl (Nat.le_of_ble_eq_true rfl) dL_law_573 (by decide)) (fun r_132 S_131 H locs h hM => ?_)
          refine lv_aload_n hC.1 hC.2.1 dL_law_576 rfl (lv_at hl 2 rfl) ?_
          refine lv_aload_n hC.1 hC.2.1 dL_law_577 rfl (lv_at hl 0 rfl) ?_
          refine lv_iload_n hC.1 hC.2.1 dL_law_578 rfl (lv_at hl 3 rfl) ?_
          refine lv_iconst (v := 1) hC.1 hC.2.1 dL_law_579 (by decide) ?_
          refine lv_iadd hC.1 hC.2.1 dL_law_580 ?_
          obtain ⟨ok_134, h⟩ := h
          refine va_sld hC.1 hC.2.1 hX hbl hbA hM.2.2.2.2.2.2 ok_134 dL_law_581 ?_
          obtain ⟨ok_137, h⟩ := h
          refine mm_ri hM (mm_V (As := [.int (xs ((x3 + 1) : Int32).toNatClampNeg)]) (rest := [.int r_132]) hC hM hl.1 (mX9_find l G b0 S_131 x2 (xs ((x3 + 1) : Int32).toNatClampNeg) _) h (ci := 9) ok_137 rfl rfl kX9_find tw_928 rfl (by decide) rfl (Nat.le_of_ble_eq_true rfl) dL_law_582 (by decide)) (fun r_136 S_135 H locs h hM => ?_)
          refine lv_icmp_eq (tgt := 1117) hC.1 hC.2.1 dL_law_585 (by decide) (fun c_138 => ?_) (fun c_138 => ?_)
          · have h := h.1 c_138
            exact qL_law_1117 hC hr hlk hX hbl hbA hb0 ih _ _ _ _ H locs ls h hM (lv_sub hl [0, 1, 2, 3] rfl)
          · have h := h.2 c_138
            refine lv_iconst (v := 0) hC.1 hC.2.1 dL_law_588 (by decide) ?_
            exact False.elim h
        | 12, _ =>
          intro c_4
          have h := h.2.2.2.2.2.2.2.2.2.2.2.2.2.1 (c_4.trans (by decide))
          refine ⟨590, by decide, ?_⟩
          refine lv_aload_n hC.1 hC.2.1 dL_law_590 rfl (lv_at hl 1 rfl) ?_
          refine lv_aload_n hC.1 hC.2.1 dL_law_591 rfl (lv_at hl 0 rfl) ?_
          refine lv_iload_n hC.1 hC.2.1 dL_law_592 rfl (lv_at hl 3 rfl) ?_
          refine lv_iconst (v := 1) hC.1 hC.2.1 dL_law_593 (by decide) ?_
          refine lv_iadd hC.1 hC.2.1 dL_law_594 ?_
          obtain ⟨ok_139, h⟩ := h
          refine va_sld hC.1 hC.2.1 hX hbl hbA hM.2.2.2.2.2.2 ok_139 dL_law_595 ?_
          refine lv_aload_n hC.1 hC.2.1 dL_law_596 rfl (lv_at hl 0 rfl) ?_
          refine lv_iload_n hC.1 hC.2.1 dL_law_597 rfl (lv_at hl 3 rfl) ?_
          refine lv_iconst (v := 2) hC.1 hC.2.1 dL_law_598 (by decide) ?_
          refine lv_iadd hC.1 hC.2.1 dL_law_599 ?_
          obtain ⟨ok_140, h⟩ := h
          refine va_sld hC.1 hC.2.1 hX hbl hbA hM.2.2.2.2.2.2 ok_140 dL_law_600 ?_
          obtain ⟨ok_143, h⟩ := h
          refine mm_ri hM (mm_V (As := [.int (xs ((x3 + 1) : Int32).toNatClampNeg), .int (xs ((x3 + 2) : Int32).toNatClampNeg)]) (rest := []) hC hM hl.1 (mX8_of l G b0 S x1 (xs ((x3 + 1) : Int32).toNatClampNeg) (xs ((x3 + 2) : Int32).toNatClampNeg) _) h (ci := 8) ok_143 rfl rfl kX8_of tw_461 rfl (by decide) rfl (Nat.le_of_ble_eq_true rfl) dL_law_601 (by decide)) (fun r_142 S_141 H locs h hM => ?_)
          refine lv_aload_n hC.1 hC.2.1 dL_law_604 rfl (lv_at hl 2 rfl) ?_
          refine lv_aload_n hC.1 hC.2.1 dL_law_605 rfl (lv_at hl 0 rfl) ?_
          refine lv_iload_n hC.1 hC.2.1 dL_law_606 rfl (lv_at hl 3 rfl) ?_
          refine lv_iconst (v := 1) hC.1 hC.2.1 dL_law_607 (by decide) ?_
          refine lv_iadd hC.1 hC.2.1 dL_law_608 ?_
          obtain ⟨ok_144, h⟩ := h
          refine va_sld hC.1 hC.2.1 hX hbl hbA hM.2.2.2.2.2.2 ok_144 dL_law_609 ?_
          refine lv_aload_n hC.1 hC.2.1 dL_law_610 rfl (lv_at hl 0 rfl) ?_
          refine lv_iload_n hC.1 hC.2.1 dL_law_611 rfl (lv_at hl 3 rfl) ?_
          refine lv_iconst (v := 2) hC.1 hC.2.1 dL_law_612 (by decide) ?_
          refine lv_iadd hC.1 hC.2.1 dL_law_613 ?_
          obtain ⟨ok_145, h⟩ := h
          refine va_sld hC.1 hC.2.1 hX hbl hbA hM.2.2.2.2.2.2 ok_145 dL_law_614 ?_
          obtain ⟨ok_148, h⟩ := h
          refine mm_ri hM (mm_V (As := [.int (xs ((x3 + 1) : Int32).toNatClampNeg), .int (xs ((x3 + 2) : Int32).toNatClampNeg)]) (rest := [.int r_142]) hC hM hl.1 (mX9_of l G b0 S_141 x2 (xs ((x3 + 1) : Int32).toNatClampNeg) (xs ((x3 + 2) : Int32).toNatClampNeg) _) h (ci := 9) ok_148 rfl rfl kX9_of tw_932 rfl (by decide) rfl (Nat.le_of_ble_eq_true rfl) dL_law_615 (by decide)) (fun r_147 S_146 H locs h hM => ?_)
          refine lv_icmp_eq (tgt := 1117) hC.1 hC.2.1 dL_law_618 (by decide) (fun c_149 => ?_) (fun c_149 => ?_)
          · have h := h.1 c_149
            exact qL_law_1117 hC hr hlk hX hbl hbA hb0 ih _ _ _ _ H locs ls h hM (lv_sub hl [0, 1, 2, 3] rfl)
          · have h := h.2 c_149
            refine lv_iconst (v := 0) hC.1 hC.2.1 dL_law_621 (by decide) ?_
            exact False.elim h
        | 13, _ =>
          intro c_4
          have h := h.2.2.2.2.2.2.2.2.2.2.2.2.2.2.1 (c_4.trans (by decide))
          refine ⟨623, by decide, ?_⟩
          refine lv_aload_n hC.1 hC.2.1 dL_law_623 rfl (lv_at hl 1 rfl) ?_
          refine lv_aload_n hC.1 hC.2.1 dL_law_624 rfl (lv_at hl 0 rfl) ?_
          refine lv_iload_n hC.1 hC.2.1 dL_law_625 rfl (lv_at hl 3 rfl) ?_
          refine lv_iconst (v := 1) hC.1 hC.2.1 dL_law_626 (by decide) ?_
          refine lv_iadd hC.1 hC.2.1 dL_law_627 ?_
          obtain ⟨ok_150, h⟩ := h
          refine va_sld hC.1 hC.2.1 hX hbl hbA hM.2.2.2.2.2.2 ok_150 dL_law_628 ?_
          refine lv_aload_n hC.1 hC.2.1 dL_law_629 rfl (lv_at hl 0 rfl) ?_
          refine lv_iload_n hC.1 hC.2.1 dL_law_630 rfl (lv_at hl 3 rfl) ?_
          refine lv_iconst (v := 2) hC.1 hC.2.1 dL_law_631 (by decide) ?_
          refine lv_iadd hC.1 hC.2.1 dL_law_632 ?_
          obtain ⟨ok_151, h⟩ := h
          refine va_sld hC.1 hC.2.1 hX hbl hbA hM.2.2.2.2.2.2 ok_151 dL_law_633 ?_
          obtain ⟨ok_154, h⟩ := h
          refine mm_ri hM (mm_V (As := [.int (xs ((x3 + 1) : Int32).toNatClampNeg), .int (xs ((x3 + 2) : Int32).toNatClampNeg)]) (rest := []) hC hM hl.1 (mX8_cost l G b0 S x1 (xs ((x3 + 1) : Int32).toNatClampNeg) (xs ((x3 + 2) : Int32).toNatClampNeg) _) h (ci := 8) ok_154 rfl rfl kX8_cost tw_469 rfl (by decide) rfl (Nat.le_of_ble_eq_true rfl) dL_law_634 (by decide)) (fun r_153 S_152 H locs h hM => ?_)
          refine lv_aload_n hC.1 hC.2.1 dL_law_637 rfl (lv_at hl 2 rfl) ?_
          refine lv_aload_n hC.1 hC.2.1 dL_law_638 rfl (lv_at hl 0 rfl) ?_
          refine lv_iload_n hC.1 hC.2.1 dL_law_639 rfl (lv_at hl 3 rfl) ?_
          refine lv_iconst (v := 1) hC.1 hC.2.1 dL_law_640 (by decide) ?_
          refine lv_iadd hC.1 hC.2.1 dL_law_641 ?_
          obtain ⟨ok_155, h⟩ := h
          refine va_sld hC.1 hC.2.1 hX hbl hbA hM.2.2.2.2.2.2 ok_155 dL_law_642 ?_
          refine lv_aload_n hC.1 hC.2.1 dL_law_643 rfl (lv_at hl 0 rfl) ?_
          refine lv_iload_n hC.1 hC.2.1 dL_law_644 rfl (lv_at hl 3 rfl) ?_
          refine lv_iconst (v := 2) hC.1 hC.2.1 dL_law_645 (by decide) ?_
          refine lv_iadd hC.1 hC.2.1 dL_law_646 ?_
          obtain ⟨ok_156, h⟩ := h
          refine va_sld hC.1 hC.2.1 hX hbl hbA hM.2.2.2.2.2.2 ok_156 dL_law_647 ?_
          obtain ⟨ok_159, h⟩ := h
          refine mm_ri hM (mm_V (As := [.int (xs ((x3 + 1) : Int32).toNatClampNeg), .int (xs ((x3 + 2) : Int32).toNatClampNeg)]) (rest := [.int r_153]) hC hM hl.1 (mX9_cost l G b0 S_152 x2 (xs ((x3 + 1) : Int32).toNatClampNeg) (xs ((x3 + 2) : Int32).toNatClampNeg) _) h (ci := 9) ok_159 rfl rfl kX9_cost tw_936 rfl (by decide) rfl (Nat.le_of_ble_eq_true rfl) dL_law_648 (by decide)) (fun r_158 S_157 H locs h hM => ?_)
          refine lv_icmp_eq (tgt := 1117) hC.1 hC.2.1 dL_law_651 (by decide) (fun c_160 => ?_) (fun c_160 => ?_)
          · have h := h.1 c_160
            exact qL_law_1117 hC hr hlk hX hbl hbA hb0 ih _ _ _ _ H locs ls h hM (lv_sub hl [0, 1, 2, 3] rfl)
          · have h := h.2 c_160
            refine lv_iconst (v := 0) hC.1 hC.2.1 dL_law_654 (by decide) ?_
            exact False.elim h
        | 14, _ =>
          intro c_4
          have h := h.2.2.2.2.2.2.2.2.2.2.2.2.2.2.2.1 (c_4.trans (by decide))
          refine ⟨656, by decide, ?_⟩
          refine lv_aload_n hC.1 hC.2.1 dL_law_656 rfl (lv_at hl 1 rfl) ?_
          refine lv_aload_n hC.1 hC.2.1 dL_law_657 rfl (lv_at hl 0 rfl) ?_
          refine lv_iload_n hC.1 hC.2.1 dL_law_658 rfl (lv_at hl 3 rfl) ?_
          refine lv_iconst (v := 1) hC.1 hC.2.1 dL_law_659 (by decide) ?_
          refine lv_iadd hC.1 hC.2.1 dL_law_660 ?_
          obtain ⟨ok_161, h⟩ := h
          refine va_sld hC.1 hC.2.1 hX hbl hbA hM.2.2.2.2.2.2 ok_161 dL_law_661 ?_
          obtain ⟨ok_164, h⟩ := h
          refine mm_ri hM (mm_V (As := [.int (xs ((x3 + 1) : Int32).toNatClampNeg)]) (rest := []) hC hM hl.1 (mX8_cheapest l G b0 S x1 (xs ((x3 + 1) : Int32).toNatClampNeg) _) h (ci := 8) ok_164 rfl rfl kX8_cheapest tw_493 rfl (by decide) rfl (Nat.le_of_ble_eq_true rfl) dL_law_662 (by decide)) (fun r_163 S_162 H locs h hM => ?_)
          refine lv_aload_n hC.1 hC.2.1 dL_law_665 rfl (lv_at hl 2 rfl) ?_
          refine lv_aload_n hC.1 hC.2.1 dL_law_666 rfl (lv_at hl 0 rfl) ?_
          refine lv_iload_n hC.1 hC.2.1 dL_law_667 rfl (lv_at hl 3 rfl) ?_
          refine lv_iconst (v := 1) hC.1 hC.2.1 dL_law_668 (by decide) ?_
          refine lv_iadd hC.1 hC.2.1 dL_law_669 ?_
          obtain ⟨ok_165, h⟩ := h
          refine va_sld hC.1 hC.2.1 hX hbl hbA hM.2.2.2.2.2.2 ok_165 dL_law_670 ?_
          obtain ⟨ok_168, h⟩ := h
          refine mm_ri hM (mm_V (As := [.int (xs ((x3 + 1) : Int32).toNatClampNeg)]) (rest := [.int r_163]) hC hM hl.1 (mX9_cheapest l G b0 S_162 x2 (xs ((x3 + 1) : Int32).toNatClampNeg) _) h (ci := 9) ok_168 rfl rfl kX9_cheapest tw_948 rfl (by decide) rfl (Nat.le_of_ble_eq_true rfl) dL_law_671 (by decide)) (fun r_167 S_166 H locs h hM => ?_)
          refine lv_icmp_eq (tgt := 1117) hC.1 hC.2.1 dL_law_674 (by decide) (fun c_169 => ?_) (fun c_169 => ?_)
          · have h := h.1 c_169
            exact qL_law_1117 hC hr hlk hX hbl hbA hb0 ih _ _ _ _ H locs ls h hM (lv_sub hl [0, 1, 2, 3] rfl)
          · have h := h.2 c_169
            refine lv_iconst (v := 0) hC.1 hC.2.1 dL_law_677 (by decide) ?_
            exact False.elim h
        | 15, _ =>
          intro c_4
          have h := h.2.2.2.2.2.2.2.2.2.2.2.2.2.2.2.2.1 (c_4.trans (by decide))
          refine ⟨679, by decide, ?_⟩
          refine lv_aload_n hC.1 hC.2.1 dL_law_679 rfl (lv_at hl 1 rfl) ?_
          refine lv_aload_n hC.1 hC.2.1 dL_law_680 rfl (lv_at hl 0 rfl) ?_
          refine lv_iload_n hC.1 hC.2.1 dL_law_681 rfl (lv_at hl 3 rfl) ?_
          refine lv_iconst (v := 1) hC.1 hC.2.1 dL_law_682 (by decide) ?_
          refine lv_iadd hC.1 hC.2.1 dL_law_683 ?_
          obtain ⟨ok_170, h⟩ := h
          refine va_sld hC.1 hC.2.1 hX hbl hbA hM.2.2.2.2.2.2 ok_170 dL_law_684 ?_
          obtain ⟨ok_173, h⟩ := h
          refine mm_ri hM (mm_V (As := [.int (xs ((x3 + 1) : Int32).toNatClampNeg)]) (rest := []) hC hM hl.1 (mX8_rue l G b0 S x1 (xs ((x3 + 1) : Int32).toNatClampNeg) _) h (ci := 8) ok_173 rfl rfl kX8_rue tw_504 rfl (by decide) rfl (Nat.le_of_ble_eq_true rfl) dL_law_685 (by decide)) (fun r_172 S_171 H locs h hM => ?_)
          refine lv_aload_n hC.1 hC.2.1 dL_law_688 rfl (lv_at hl 2 rfl) ?_
          refine lv_aload_n hC.1 hC.2.1 dL_law_689 rfl (lv_at hl 0 rfl) ?_
          refine lv_iload_n hC.1 hC.2.1 dL_law_690 rfl (lv_at hl 3 rfl) ?_
          refine lv_iconst (v := 1) hC.1 hC.2.1 dL_law_691 (by decide) ?_
          refine lv_iadd hC.1 hC.2.1 dL_law_692 ?_
          obtain ⟨ok_174, h⟩ := h
          refine va_sld hC.1 hC.2.1 hX hbl hbA hM.2.2.2.2.2.2 ok_174 dL_law_693 ?_
          obtain ⟨ok_177, h⟩ := h
          refine mm_ri hM (mm_V (As := [.int (xs ((x3 + 1) : Int32).toNatClampNeg)]) (rest := [.int r_172]) hC hM hl.1 (mX9_rue l G b0 S_171 x2 (xs ((x3 + 1) : Int32).toNatClampNeg) _) h (ci := 9) ok_177 rfl rfl kX9_rue tw_956 rfl (by decide) rfl (Nat.le_of_ble_eq_true rfl) dL_law_694 (by decide)) (fun r_176 S_175 H locs h hM => ?_)
          refine lv_icmp_eq (tgt := 1117) hC.1 hC.2.1 dL_law_697 (by decide) (fun c_178 => ?_) (fun c_178 => ?_)
          · have h := h.1 c_178
            exact qL_law_1117 hC hr hlk hX hbl hbA hb0 ih _ _ _ _ H locs ls h hM (lv_sub hl [0, 1, 2, 3] rfl)
          · have h := h.2 c_178
            refine lv_iconst (v := 0) hC.1 hC.2.1 dL_law_700 (by decide) ?_
            exact False.elim h
        | 16, _ =>
          intro c_4
          have h := h.2.2.2.2.2.2.2.2.2.2.2.2.2.2.2.2.2.1 (c_4.trans (by decide))
          refine ⟨702, by decide, ?_⟩
          refine lv_aload_n hC.1 hC.2.1 dL_law_702 rfl (lv_at hl 1 rfl) ?_
          refine lv_aload_n hC.1 hC.2.1 dL_law_703 rfl (lv_at hl 0 rfl) ?_
          refine lv_iload_n hC.1 hC.2.1 dL_law_704 rfl (lv_at hl 3 rfl) ?_
          refine lv_iconst (v := 1) hC.1 hC.2.1 dL_law_705 (by decide) ?_
          refine lv_iadd hC.1 hC.2.1 dL_law_706 ?_
          obtain ⟨ok_179, h⟩ := h
          refine va_sld hC.1 hC.2.1 hX hbl hbA hM.2.2.2.2.2.2 ok_179 dL_law_707 ?_
          obtain ⟨ok_182, h⟩ := h
          refine mm_ri hM (mm_V (As := [.int (xs ((x3 + 1) : Int32).toNatClampNeg)]) (rest := []) hC hM hl.1 (mX8_rival l G b0 S x1 (xs ((x3 + 1) : Int32).toNatClampNeg) _) h (ci := 8) ok_182 rfl rfl kX8_rival tw_519 rfl (by decide) rfl (Nat.le_of_ble_eq_true rfl) dL_law_708 (by decide)) (fun r_181 S_180 H locs h hM => ?_)
          refine lv_aload_n hC.1 hC.2.1 dL_law_711 rfl (lv_at hl 2 rfl) ?_
          refine lv_aload_n hC.1 hC.2.1 dL_law_712 rfl (lv_at hl 0 rfl) ?_
          refine lv_iload_n hC.1 hC.2.1 dL_law_713 rfl (lv_at hl 3 rfl) ?_
          refine lv_iconst (v := 1) hC.1 hC.2.1 dL_law_714 (by decide) ?_
          refine lv_iadd hC.1 hC.2.1 dL_law_715 ?_
          obtain ⟨ok_183, h⟩ := h
          refine va_sld hC.1 hC.2.1 hX hbl hbA hM.2.2.2.2.2.2 ok_183 dL_law_716 ?_
          obtain ⟨ok_186, h⟩ := h
          refine mm_ri hM (mm_V (As := [.int (xs ((x3 + 1) : Int32).toNatClampNeg)]) (rest := [.int r_181]) hC hM hl.1 (mX9_rival l G b0 S_180 x2 (xs ((x3 + 1) : Int32).toNatClampNeg) _) h (ci := 9) ok_186 rfl rfl kX9_rival tw_964 rfl (by decide) rfl (Nat.le_of_ble_eq_true rfl) dL_law_717 (by decide)) (fun r_185 S_184 H locs h hM => ?_)
          refine lv_icmp_eq (tgt := 1117) hC.1 hC.2.1 dL_law_720 (by decide) (fun c_187 => ?_) (fun c_187 => ?_)
          · have h := h.1 c_187
            exact qL_law_1117 hC hr hlk hX hbl hbA hb0 ih _ _ _ _ H locs ls h hM (lv_sub hl [0, 1, 2, 3] rfl)
          · have h := h.2 c_187
            refine lv_iconst (v := 0) hC.1 hC.2.1 dL_law_723 (by decide) ?_
            exact False.elim h
        | 17, _ =>
          intro c_4
          have h := h.2.2.2.2.2.2.2.2.2.2.2.2.2.2.2.2.2.2.1 (c_4.trans (by decide))
          refine ⟨725, by decide, ?_⟩
          refine lv_aload_n hC.1 hC.2.1 dL_law_725 rfl (lv_at hl 1 rfl) ?_
          obtain ⟨ok_190, h⟩ := h
          refine mm_ri hM (mm_V (As := []) (rest := []) hC hM hl.1 (mX8_best l G b0 S x1 _) h (ci := 8) ok_190 rfl rfl kX8_best tw_523 rfl (by decide) rfl (Nat.le_of_ble_eq_true rfl) dL_law_726 (by decide)) (fun r_189 S_188 H locs h hM => ?_)
          refine lv_aload_n hC.1 hC.2.1 dL_law_729 rfl (lv_at hl 2 rfl) ?_
          obtain ⟨ok_193, h⟩ := h
          refine mm_ri hM (mm_V (As := []) (rest := [.int r_189]) hC hM hl.1 (mX9_best l G b0 S_188 x2 _) h (ci := 9) ok_193 rfl rfl kX9_best tw_968 rfl (by decide) rfl (Nat.le_of_ble_eq_true rfl) dL_law_730 (by decide)) (fun r_192 S_191 H locs h hM => ?_)
          refine lv_icmp_eq (tgt := 1117) hC.1 hC.2.1 dL_law_733 (by decide) (fun c_194 => ?_) (fun c_194 => ?_)
          · have h := h.1 c_194
            exact qL_law_1117 hC hr hlk hX hbl hbA hb0 ih _ _ _ _ H locs ls h hM (lv_sub hl [0, 1, 2, 3] rfl)
          · have h := h.2 c_194
            refine lv_iconst (v := 0) hC.1 hC.2.1 dL_law_736 (by decide) ?_
            exact False.elim h
        | 18, _ =>
          intro c_4
          have h := h.2.2.2.2.2.2.2.2.2.2.2.2.2.2.2.2.2.2.2.1 (c_4.trans (by decide))
          refine ⟨738, by decide, ?_⟩
          refine lv_aload_n hC.1 hC.2.1 dL_law_738 rfl (lv_at hl 1 rfl) ?_
          obtain ⟨ok_197, h⟩ := h
          refine mm_ri hM (mm_V (As := []) (rest := []) hC hM hl.1 (mX8_many l G b0 S x1 _) h (ci := 8) ok_197 rfl rfl kX8_many tw_535 rfl (by decide) rfl (Nat.le_of_ble_eq_true rfl) dL_law_739 (by decide)) (fun r_196 S_195 H locs h hM => ?_)
          refine lv_aload_n hC.1 hC.2.1 dL_law_742 rfl (lv_at hl 2 rfl) ?_
          obtain ⟨ok_200, h⟩ := h
          refine mm_ri hM (mm_V (As := []) (rest := [.int r_196]) hC hM hl.1 (mX9_many l G b0 S_195 x2 _) h (ci := 9) ok_200 rfl rfl kX9_many tw_972 rfl (by decide) rfl (Nat.le_of_ble_eq_true rfl) dL_law_743 (by decide)) (fun r_199 S_198 H locs h hM => ?_)
          refine lv_icmp_eq (tgt := 1117) hC.1 hC.2.1 dL_law_746 (by decide) (fun c_201 => ?_) (fun c_201 => ?_)
          · have h := h.1 c_201
            exact qL_law_1117 hC hr hlk hX hbl hbA hb0 ih _ _ _ _ H locs ls h hM (lv_sub hl [0, 1, 2, 3] rfl)
          · have h := h.2 c_201
            refine lv_iconst (v := 0) hC.1 hC.2.1 dL_law_749 (by decide) ?_
            exact False.elim h
        | 19, _ =>
          intro c_4
          have h := h.2.2.2.2.2.2.2.2.2.2.2.2.2.2.2.2.2.2.2.2.1 (c_4.trans (by decide))
          refine ⟨751, by decide, ?_⟩
          refine lv_aload_n hC.1 hC.2.1 dL_law_751 rfl (lv_at hl 1 rfl) ?_
          obtain ⟨ok_204, h⟩ := h
          refine mm_ri hM (mm_V (As := []) (rest := []) hC hM hl.1 (mX8_middle l G b0 S x1 _) h (ci := 8) ok_204 rfl rfl kX8_middle tw_544 rfl (by decide) rfl (Nat.le_of_ble_eq_true rfl) dL_law_752 (by decide)) (fun r_203 S_202 H locs h hM => ?_)
          refine lv_aload_n hC.1 hC.2.1 dL_law_755 rfl (lv_at hl 2 rfl) ?_
          obtain ⟨ok_207, h⟩ := h
          refine mm_ri hM (mm_V (As := []) (rest := [.int r_203]) hC hM hl.1 (mX9_middle l G b0 S_202 x2 _) h (ci := 9) ok_207 rfl rfl kX9_middle tw_977 rfl (by decide) rfl (Nat.le_of_ble_eq_true rfl) dL_law_756 (by decide)) (fun r_206 S_205 H locs h hM => ?_)
          refine lv_icmp_eq (tgt := 1117) hC.1 hC.2.1 dL_law_759 (by decide) (fun c_208 => ?_) (fun c_208 => ?_)
          · have h := h.1 c_208
            exact qL_law_1117 hC hr hlk hX hbl hbA hb0 ih _ _ _ _ H locs ls h hM (lv_sub hl [0, 1, 2, 3] rfl)
          · have h := h.2 c_208
            refine lv_iconst (v := 0) hC.1 hC.2.1 dL_law_762 (by decide) ?_
            exact False.elim h
        | 20, _ =>
          intro c_4
          have h := h.2.2.2.2.2.2.2.2.2.2.2.2.2.2.2.2.2.2.2.2.2.1 (c_4.trans (by decide))
          refine ⟨764, by decide, ?_⟩
          refine lv_aload_n hC.1 hC.2.1 dL_law_764 rfl (lv_at hl 1 rfl) ?_
          refine lv_aload_n hC.1 hC.2.1 dL_law_765 rfl (lv_at hl 0 rfl) ?_
          refine lv_iload_n hC.1 hC.2.1 dL_law_766 rfl (lv_at hl 3 rfl) ?_
          refine lv_iconst (v := 1) hC.1 hC.2.1 dL_law_767 (by decide) ?_
          refine lv_iadd hC.1 hC.2.1 dL_law_768 ?_
          obtain ⟨ok_209, h⟩ := h
          refine va_sld hC.1 hC.2.1 hX hbl hbA hM.2.2.2.2.2.2 ok_209 dL_law_769 ?_
          obtain ⟨ok_212, h⟩ := h
          refine mm_ri hM (mm_V (As := [.int (xs ((x3 + 1) : Int32).toNatClampNeg)]) (rest := []) hC hM hl.1 (mX8_hold l G b0 S x1 (xs ((x3 + 1) : Int32).toNatClampNeg) _) h (ci := 8) ok_212 rfl rfl kX8_hold tw_552 rfl (by decide) rfl (Nat.le_of_ble_eq_true rfl) dL_law_770 (by decide)) (fun r_211 S_210 H locs h hM => ?_)
          refine lv_aload_n hC.1 hC.2.1 dL_law_773 rfl (lv_at hl 2 rfl) ?_
          refine lv_aload_n hC.1 hC.2.1 dL_law_774 rfl (lv_at hl 0 rfl) ?_
          refine lv_iload_n hC.1 hC.2.1 dL_law_775 rfl (lv_at hl 3 rfl) ?_
          refine lv_iconst (v := 1) hC.1 hC.2.1 dL_law_776 (by decide) ?_
          refine lv_iadd hC.1 hC.2.1 dL_law_777 ?_
          obtain ⟨ok_213, h⟩ := h
          refine va_sld hC.1 hC.2.1 hX hbl hbA hM.2.2.2.2.2.2 ok_213 dL_law_778 ?_
          obtain ⟨ok_216, h⟩ := h
          refine mm_ri hM (mm_V (As := [.int (xs ((x3 + 1) : Int32).toNatClampNeg)]) (rest := [.int r_211]) hC hM hl.1 (mX9_hold l G b0 S_210 x2 (xs ((x3 + 1) : Int32).toNatClampNeg) _) h (ci := 9) ok_216 rfl rfl kX9_hold tw_985 rfl (by decide) rfl (Nat.le_of_ble_eq_true rfl) dL_law_779 (by decide)) (fun r_215 S_214 H locs h hM => ?_)
          refine lv_icmp_eq (tgt := 1117) hC.1 hC.2.1 dL_law_782 (by decide) (fun c_217 => ?_) (fun c_217 => ?_)
          · have h := h.1 c_217
            exact qL_law_1117 hC hr hlk hX hbl hbA hb0 ih _ _ _ _ H locs ls h hM (lv_sub hl [0, 1, 2, 3] rfl)
          · have h := h.2 c_217
            refine lv_iconst (v := 0) hC.1 hC.2.1 dL_law_785 (by decide) ?_
            exact False.elim h
        | 21, _ =>
          intro c_4
          have h := h.2.2.2.2.2.2.2.2.2.2.2.2.2.2.2.2.2.2.2.2.2.2.1 (c_4.trans (by decide))
          refine ⟨787, by decide, ?_⟩
          refine lv_aload_n hC.1 hC.2.1 dL_law_787 rfl (lv_at hl 1 rfl) ?_
          refine lv_aload_n hC.1 hC.2.1 dL_law_788 rfl (lv_at hl 0 rfl) ?_
          refine lv_iload_n hC.1 hC.2.1 dL_law_789 rfl (lv_at hl 3 rfl) ?_
          refine lv_iconst (v := 1) hC.1 hC.2.1 dL_law_790 (by decide) ?_
          refine lv_iadd hC.1 hC.2.1 dL_law_791 ?_
          obtain ⟨ok_218, h⟩ := h
          refine va_sld hC.1 hC.2.1 hX hbl hbA hM.2.2.2.2.2.2 ok_218 dL_law_792 ?_
          refine lv_aload_n hC.1 hC.2.1 dL_law_793 rfl (lv_at hl 0 rfl) ?_
          refine lv_iload_n hC.1 hC.2.1 dL_law_794 rfl (lv_at hl 3 rfl) ?_
          refine lv_iconst (v := 2) hC.1 hC.2.1 dL_law_795 (by decide) ?_
          refine lv_iadd hC.1 hC.2.1 dL_law_796 ?_
          obtain ⟨ok_219, h⟩ := h
          refine va_sld hC.1 hC.2.1 hX hbl hbA hM.2.2.2.2.2.2 ok_219 dL_law_797 ?_
          obtain ⟨ok_222, h⟩ := h
          refine mm_ri hM (mm_V (As := [.int (xs ((x3 + 1) : Int32).toNatClampNeg), .int (xs ((x3 + 2) : Int32).toNatClampNeg)]) (rest := []) hC hM hl.1 (mX8_dearest l G b0 S x1 (xs ((x3 + 1) : Int32).toNatClampNeg) (xs ((x3 + 2) : Int32).toNatClampNeg) _) h (ci := 8) ok_222 rfl rfl kX8_dearest tw_568 rfl (by decide) rfl (Nat.le_of_ble_eq_true rfl) dL_law_798 (by decide)) (fun r_221 S_220 H locs h hM => ?_)
          refine lv_aload_n hC.1 hC.2.1 dL_law_801 rfl (lv_at hl 2 rfl) ?_
          refine lv_aload_n hC.1 hC.2.1 dL_law_802 rfl (lv_at hl 0 rfl) ?_
          refine lv_iload_n hC.1 hC.2.1 dL_law_803 rfl (lv_at hl 3 rfl) ?_
          refine lv_iconst (v := 1) hC.1 hC.2.1 dL_law_804 (by decide) ?_
          refine lv_iadd hC.1 hC.2.1 dL_law_805 ?_
          obtain ⟨ok_223, h⟩ := h
          refine va_sld hC.1 hC.2.1 hX hbl hbA hM.2.2.2.2.2.2 ok_223 dL_law_806 ?_
          refine lv_aload_n hC.1 hC.2.1 dL_law_807 rfl (lv_at hl 0 rfl) ?_
          refine lv_iload_n hC.1 hC.2.1 dL_law_808 rfl (lv_at hl 3 rfl) ?_
          refine lv_iconst (v := 2) hC.1 hC.2.1 dL_law_809 (by decide) ?_
          refine lv_iadd hC.1 hC.2.1 dL_law_810 ?_
          obtain ⟨ok_224, h⟩ := h
          refine va_sld hC.1 hC.2.1 hX hbl hbA hM.2.2.2.2.2.2 ok_224 dL_law_811 ?_
          obtain ⟨ok_227, h⟩ := h
          refine mm_ri hM (mm_V (As := [.int (xs ((x3 + 1) : Int32).toNatClampNeg), .int (xs ((x3 + 2) : Int32).toNatClampNeg)]) (rest := [.int r_221]) hC hM hl.1 (mX9_dearest l G b0 S_220 x2 (xs ((x3 + 1) : Int32).toNatClampNeg) (xs ((x3 + 2) : Int32).toNatClampNeg) _) h (ci := 9) ok_227 rfl rfl kX9_dearest tw_994 rfl (by decide) rfl (Nat.le_of_ble_eq_true rfl) dL_law_812 (by decide)) (fun r_226 S_225 H locs h hM => ?_)
          refine lv_icmp_eq (tgt := 1117) hC.1 hC.2.1 dL_law_815 (by decide) (fun c_228 => ?_) (fun c_228 => ?_)
          · have h := h.1 c_228
            exact qL_law_1117 hC hr hlk hX hbl hbA hb0 ih _ _ _ _ H locs ls h hM (lv_sub hl [0, 1, 2, 3] rfl)
          · have h := h.2 c_228
            refine lv_iconst (v := 0) hC.1 hC.2.1 dL_law_818 (by decide) ?_
            exact False.elim h
        | 22, _ =>
          intro c_4
          have h := h.2.2.2.2.2.2.2.2.2.2.2.2.2.2.2.2.2.2.2.2.2.2.2.1 (c_4.trans (by decide))
          refine ⟨820, by decide, ?_⟩
          refine lv_aload_n hC.1 hC.2.1 dL_law_820 rfl (lv_at hl 1 rfl) ?_
          refine lv_aload_n hC.1 hC.2.1 dL_law_821 rfl (lv_at hl 0 rfl) ?_
          refine lv_iload_n hC.1 hC.2.1 dL_law_822 rfl (lv_at hl 3 rfl) ?_
          refine lv_iconst (v := 1) hC.1 hC.2.1 dL_law_823 (by decide) ?_
          refine lv_iadd hC.1 hC.2.1 dL_law_824 ?_
          obtain ⟨ok_229, h⟩ := h
          refine va_sld hC.1 hC.2.1 hX hbl hbA hM.2.2.2.2.2.2 ok_229 dL_law_825 ?_
          obtain ⟨ok_232, h⟩ := h
          refine mm_ri hM (mm_V (As := [.int (xs ((x3 + 1) : Int32).toNatClampNeg)]) (rest := []) hC hM hl.1 (mX8_few l G b0 S x1 (xs ((x3 + 1) : Int32).toNatClampNeg) _) h (ci := 8) ok_232 rfl rfl kX8_few tw_587 rfl (by decide) rfl (Nat.le_of_ble_eq_true rfl) dL_law_826 (by decide)) (fun r_231 S_230 H locs h hM => ?_)
          refine lv_aload_n hC.1 hC.2.1 dL_law_829 rfl (lv_at hl 2 rfl) ?_
          refine lv_aload_n hC.1 hC.2.1 dL_law_830 rfl (lv_at hl 0 rfl) ?_
          refine lv_iload_n hC.1 hC.2.1 dL_law_831 rfl (lv_at hl 3 rfl) ?_
          refine lv_iconst (v := 1) hC.1 hC.2.1 dL_law_832 (by decide) ?_
          refine lv_iadd hC.1 hC.2.1 dL_law_833 ?_
          obtain ⟨ok_233, h⟩ := h
          refine va_sld hC.1 hC.2.1 hX hbl hbA hM.2.2.2.2.2.2 ok_233 dL_law_834 ?_
          obtain ⟨ok_236, h⟩ := h
          refine mm_ri hM (mm_V (As := [.int (xs ((x3 + 1) : Int32).toNatClampNeg)]) (rest := [.int r_231]) hC hM hl.1 (mX9_few l G b0 S_230 x2 (xs ((x3 + 1) : Int32).toNatClampNeg) _) h (ci := 9) ok_236 rfl rfl kX9_few tw_1002 rfl (by decide) rfl (Nat.le_of_ble_eq_true rfl) dL_law_835 (by decide)) (fun r_235 S_234 H locs h hM => ?_)
          refine lv_icmp_eq (tgt := 1117) hC.1 hC.2.1 dL_law_838 (by decide) (fun c_237 => ?_) (fun c_237 => ?_)
          · have h := h.1 c_237
            exact qL_law_1117 hC hr hlk hX hbl hbA hb0 ih _ _ _ _ H locs ls h hM (lv_sub hl [0, 1, 2, 3] rfl)
          · have h := h.2 c_237
            refine lv_iconst (v := 0) hC.1 hC.2.1 dL_law_841 (by decide) ?_
            exact False.elim h
        | 23, _ =>
          intro c_4
          have h := h.2.2.2.2.2.2.2.2.2.2.2.2.2.2.2.2.2.2.2.2.2.2.2.2.1 (c_4.trans (by decide))
          refine ⟨843, by decide, ?_⟩
          refine lv_aload_n hC.1 hC.2.1 dL_law_843 rfl (lv_at hl 1 rfl) ?_
          refine lv_aload_n hC.1 hC.2.1 dL_law_844 rfl (lv_at hl 0 rfl) ?_
          refine lv_iload_n hC.1 hC.2.1 dL_law_845 rfl (lv_at hl 3 rfl) ?_
          refine lv_iconst (v := 1) hC.1 hC.2.1 dL_law_846 (by decide) ?_
          refine lv_iadd hC.1 hC.2.1 dL_law_847 ?_
          obtain ⟨ok_238, h⟩ := h
          refine va_sld hC.1 hC.2.1 hX hbl hbA hM.2.2.2.2.2.2 ok_238 dL_law_848 ?_
          refine lv_aload_n hC.1 hC.2.1 dL_law_849 rfl (lv_at hl 0 rfl) ?_
          refine lv_iload_n hC.1 hC.2.1 dL_law_850 rfl (lv_at hl 3 rfl) ?_
          refine lv_iconst (v := 2) hC.1 hC.2.1 dL_law_851 (by decide) ?_
          refine lv_iadd hC.1 hC.2.1 dL_law_852 ?_
          obtain ⟨ok_239, h⟩ := h
          refine va_sld hC.1 hC.2.1 hX hbl hbA hM.2.2.2.2.2.2 ok_239 dL_law_853 ?_
          obtain ⟨ok_242, h⟩ := h
          refine mm_ri hM (mm_V (As := [.int (xs ((x3 + 1) : Int32).toNatClampNeg), .int (xs ((x3 + 2) : Int32).toNatClampNeg)]) (rest := []) hC hM hl.1 (mX8_costIn l G b0 S x1 (xs ((x3 + 1) : Int32).toNatClampNeg) (xs ((x3 + 2) : Int32).toNatClampNeg) _) h (ci := 8) ok_242 rfl rfl kX8_costIn tw_595 rfl (by decide) rfl (Nat.le_of_ble_eq_true rfl) dL_law_854 (by decide)) (fun r_241 S_240 H locs h hM => ?_)
          refine lv_aload_n hC.1 hC.2.1 dL_law_857 rfl (lv_at hl 2 rfl) ?_
          refine lv_aload_n hC.1 hC.2.1 dL_law_858 rfl (lv_at hl 0 rfl) ?_
          refine lv_iload_n hC.1 hC.2.1 dL_law_859 rfl (lv_at hl 3 rfl) ?_
          refine lv_iconst (v := 1) hC.1 hC.2.1 dL_law_860 (by decide) ?_
          refine lv_iadd hC.1 hC.2.1 dL_law_861 ?_
          obtain ⟨ok_243, h⟩ := h
          refine va_sld hC.1 hC.2.1 hX hbl hbA hM.2.2.2.2.2.2 ok_243 dL_law_862 ?_
          refine lv_aload_n hC.1 hC.2.1 dL_law_863 rfl (lv_at hl 0 rfl) ?_
          refine lv_iload_n hC.1 hC.2.1 dL_law_864 rfl (lv_at hl 3 rfl) ?_
          refine lv_iconst (v := 2) hC.1 hC.2.1 dL_law_865 (by decide) ?_
          refine lv_iadd hC.1 hC.2.1 dL_law_866 ?_
          obtain ⟨ok_244, h⟩ := h
          refine va_sld hC.1 hC.2.1 hX hbl hbA hM.2.2.2.2.2.2 ok_244 dL_law_867 ?_
          obtain ⟨ok_247, h⟩ := h
          refine mm_ri hM (mm_V (As := [.int (xs ((x3 + 1) : Int32).toNatClampNeg), .int (xs ((x3 + 2) : Int32).toNatClampNeg)]) (rest := [.int r_241]) hC hM hl.1 (mX9_costIn l G b0 S_240 x2 (xs ((x3 + 1) : Int32).toNatClampNeg) (xs ((x3 + 2) : Int32).toNatClampNeg) _) h (ci := 9) ok_247 rfl rfl kX9_costIn tw_1006 rfl (by decide) rfl (Nat.le_of_ble_eq_true rfl) dL_law_868 (by decide)) (fun r_246 S_245 H locs h hM => ?_)
          refine lv_icmp_eq (tgt := 1117) hC.1 hC.2.1 dL_law_871 (by decide) (fun c_248 => ?_) (fun c_248 => ?_)
          · have h := h.1 c_248
            exact qL_law_1117 hC hr hlk hX hbl hbA hb0 ih _ _ _ _ H locs ls h hM (lv_sub hl [0, 1, 2, 3] rfl)
          · have h := h.2 c_248
            refine lv_iconst (v := 0) hC.1 hC.2.1 dL_law_874 (by decide) ?_
            exact False.elim h
        | 24, _ =>
          intro c_4
          have h := h.2.2.2.2.2.2.2.2.2.2.2.2.2.2.2.2.2.2.2.2.2.2.2.2.2.1 (c_4.trans (by decide))
          refine ⟨876, by decide, ?_⟩
          refine lv_aload_n hC.1 hC.2.1 dL_law_876 rfl (lv_at hl 1 rfl) ?_
          refine lv_aload_n hC.1 hC.2.1 dL_law_877 rfl (lv_at hl 0 rfl) ?_
          refine lv_iload_n hC.1 hC.2.1 dL_law_878 rfl (lv_at hl 3 rfl) ?_
          refine lv_iconst (v := 1) hC.1 hC.2.1 dL_law_879 (by decide) ?_
          refine lv_iadd hC.1 hC.2.1 dL_law_880 ?_
          obtain ⟨ok_249, h⟩ := h
          refine va_sld hC.1 hC.2.1 hX hbl hbA hM.2.2.2.2.2.2 ok_249 dL_law_881 ?_
          obtain ⟨ok_252, h⟩ := h
          refine mm_ri hM (mm_V (As := [.int (xs ((x3 + 1) : Int32).toNatClampNeg)]) (rest := []) hC hM hl.1 (mX8_cheapestIn l G b0 S x1 (xs ((x3 + 1) : Int32).toNatClampNeg) _) h (ci := 8) ok_252 rfl rfl kX8_cheapestIn tw_603 rfl (by decide) rfl (Nat.le_of_ble_eq_true rfl) dL_law_882 (by decide)) (fun r_251 S_250 H locs h hM => ?_)
          refine lv_aload_n hC.1 hC.2.1 dL_law_885 rfl (lv_at hl 2 rfl) ?_
          refine lv_aload_n hC.1 hC.2.1 dL_law_886 rfl (lv_at hl 0 rfl) ?_
          refine lv_iload_n hC.1 hC.2.1 dL_law_887 rfl (lv_at hl 3 rfl) ?_
          refine lv_iconst (v := 1) hC.1 hC.2.1 dL_law_888 (by decide) ?_
          refine lv_iadd hC.1 hC.2.1 dL_law_889 ?_
          obtain ⟨ok_253, h⟩ := h
          refine va_sld hC.1 hC.2.1 hX hbl hbA hM.2.2.2.2.2.2 ok_253 dL_law_890 ?_
          obtain ⟨ok_256, h⟩ := h
          refine mm_ri hM (mm_V (As := [.int (xs ((x3 + 1) : Int32).toNatClampNeg)]) (rest := [.int r_251]) hC hM hl.1 (mX9_cheapestIn l G b0 S_250 x2 (xs ((x3 + 1) : Int32).toNatClampNeg) _) h (ci := 9) ok_256 rfl rfl kX9_cheapestIn tw_1018 rfl (by decide) rfl (Nat.le_of_ble_eq_true rfl) dL_law_891 (by decide)) (fun r_255 S_254 H locs h hM => ?_)
          refine lv_icmp_eq (tgt := 1117) hC.1 hC.2.1 dL_law_894 (by decide) (fun c_257 => ?_) (fun c_257 => ?_)
          · have h := h.1 c_257
            exact qL_law_1117 hC hr hlk hX hbl hbA hb0 ih _ _ _ _ H locs ls h hM (lv_sub hl [0, 1, 2, 3] rfl)
          · have h := h.2 c_257
            refine lv_iconst (v := 0) hC.1 hC.2.1 dL_law_897 (by decide) ?_
            exact False.elim h
        | 25, _ =>
          intro c_4
          have h := h.2.2.2.2.2.2.2.2.2.2.2.2.2.2.2.2.2.2.2.2.2.2.2.2.2.2.1 (c_4.trans (by decide))
          refine ⟨899, by decide, ?_⟩
          refine lv_aload_n hC.1 hC.2.1 dL_law_899 rfl (lv_at hl 1 rfl) ?_
          refine lv_aload_n hC.1 hC.2.1 dL_law_900 rfl (lv_at hl 0 rfl) ?_
          refine lv_iload_n hC.1 hC.2.1 dL_law_901 rfl (lv_at hl 3 rfl) ?_
          refine lv_iconst (v := 1) hC.1 hC.2.1 dL_law_902 (by decide) ?_
          refine lv_iadd hC.1 hC.2.1 dL_law_903 ?_
          obtain ⟨ok_258, h⟩ := h
          refine va_sld hC.1 hC.2.1 hX hbl hbA hM.2.2.2.2.2.2 ok_258 dL_law_904 ?_
          obtain ⟨ok_261, h⟩ := h
          refine mm_ri hM (mm_V (As := [.int (xs ((x3 + 1) : Int32).toNatClampNeg)]) (rest := []) hC hM hl.1 (mX8_rueOf l G b0 S x1 (xs ((x3 + 1) : Int32).toNatClampNeg) _) h (ci := 8) ok_261 rfl rfl kX8_rueOf tw_614 rfl (by decide) rfl (Nat.le_of_ble_eq_true rfl) dL_law_905 (by decide)) (fun r_260 S_259 H locs h hM => ?_)
          refine lv_aload_n hC.1 hC.2.1 dL_law_908 rfl (lv_at hl 2 rfl) ?_
          refine lv_aload_n hC.1 hC.2.1 dL_law_909 rfl (lv_at hl 0 rfl) ?_
          refine lv_iload_n hC.1 hC.2.1 dL_law_910 rfl (lv_at hl 3 rfl) ?_
          refine lv_iconst (v := 1) hC.1 hC.2.1 dL_law_911 (by decide) ?_
          refine lv_iadd hC.1 hC.2.1 dL_law_912 ?_
          obtain ⟨ok_262, h⟩ := h
          refine va_sld hC.1 hC.2.1 hX hbl hbA hM.2.2.2.2.2.2 ok_262 dL_law_913 ?_
          obtain ⟨ok_265, h⟩ := h
          refine mm_ri hM (mm_V (As := [.int (xs ((x3 + 1) : Int32).toNatClampNeg)]) (rest := [.int r_260]) hC hM hl.1 (mX9_rueOf l G b0 S_259 x2 (xs ((x3 + 1) : Int32).toNatClampNeg) _) h (ci := 9) ok_265 rfl rfl kX9_rueOf tw_1026 rfl (by decide) rfl (Nat.le_of_ble_eq_true rfl) dL_law_914 (by decide)) (fun r_264 S_263 H locs h hM => ?_)
          refine lv_icmp_eq (tgt := 1117) hC.1 hC.2.1 dL_law_917 (by decide) (fun c_266 => ?_) (fun c_266 => ?_)
          · have h := h.1 c_266
            exact qL_law_1117 hC hr hlk hX hbl hbA hb0 ih _ _ _ _ H locs ls h hM (lv_sub hl [0, 1, 2, 3] rfl)
          · have h := h.2 c_266
            refine lv_iconst (v := 0) hC.1 hC.2.1 dL_law_920 (by decide) ?_
            exact False.elim h
        | 26, _ =>
          intro c_4
          have h := h.2.2.2.2.2.2.2.2.2.2.2.2.2.2.2.2.2.2.2.2.2.2.2.2.2.2.2.1 (c_4.trans (by decide))
          refine ⟨922, by decide, ?_⟩
          refine lv_aload_n hC.1 hC.2.1 dL_law_922 rfl (lv_at hl 1 rfl) ?_
          obtain ⟨ok_269, h⟩ := h
          refine mm_ri hM (mm_V (As := []) (rest := []) hC hM hl.1 (mX8_bestOf l G b0 S x1 _) h (ci := 8) ok_269 rfl rfl kX8_bestOf tw_636 rfl (by decide) rfl (Nat.le_of_ble_eq_true rfl) dL_law_923 (by decide)) (fun r_268 S_267 H locs h hM => ?_)
          refine lv_aload_n hC.1 hC.2.1 dL_law_926 rfl (lv_at hl 2 rfl) ?_
          obtain ⟨ok_272, h⟩ := h
          refine mm_ri hM (mm_V (As := []) (rest := [.int r_268]) hC hM hl.1 (mX9_bestOf l G b0 S_267 x2 _) h (ci := 9) ok_272 rfl rfl kX9_bestOf tw_1034 rfl (by decide) rfl (Nat.le_of_ble_eq_true rfl) dL_law_927 (by decide)) (fun r_271 S_270 H locs h hM => ?_)
          refine lv_icmp_eq (tgt := 1117) hC.1 hC.2.1 dL_law_930 (by decide) (fun c_273 => ?_) (fun c_273 => ?_)
          · have h := h.1 c_273
            exact qL_law_1117 hC hr hlk hX hbl hbA hb0 ih _ _ _ _ H locs ls h hM (lv_sub hl [0, 1, 2, 3] rfl)
          · have h := h.2 c_273
            refine lv_iconst (v := 0) hC.1 hC.2.1 dL_law_933 (by decide) ?_
            exact False.elim h
        | 27, _ =>
          intro c_4
          have h := h.2.2.2.2.2.2.2.2.2.2.2.2.2.2.2.2.2.2.2.2.2.2.2.2.2.2.2.2.1 (c_4.trans (by decide))
          refine ⟨935, by decide, ?_⟩
          refine lv_aload_n hC.1 hC.2.1 dL_law_935 rfl (lv_at hl 1 rfl) ?_
          refine lv_aload_n hC.1 hC.2.1 dL_law_936 rfl (lv_at hl 0 rfl) ?_
          refine lv_iload_n hC.1 hC.2.1 dL_law_937 rfl (lv_at hl 3 rfl) ?_
          refine lv_iconst (v := 1) hC.1 hC.2.1 dL_law_938 (by decide) ?_
          refine lv_iadd hC.1 hC.2.1 dL_law_939 ?_
          obtain ⟨ok_274, h⟩ := h
          refine va_sld hC.1 hC.2.1 hX hbl hbA hM.2.2.2.2.2.2 ok_274 dL_law_940 ?_
          refine lv_aload_n hC.1 hC.2.1 dL_law_941 rfl (lv_at hl 0 rfl) ?_
          refine lv_iload_n hC.1 hC.2.1 dL_law_942 rfl (lv_at hl 3 rfl) ?_
          refine lv_iconst (v := 2) hC.1 hC.2.1 dL_law_943 (by decide) ?_
          refine lv_iadd hC.1 hC.2.1 dL_law_944 ?_
          obtain ⟨ok_275, h⟩ := h
          refine va_sld hC.1 hC.2.1 hX hbl hbA hM.2.2.2.2.2.2 ok_275 dL_law_945 ?_
          refine lv_aload_n hC.1 hC.2.1 dL_law_946 rfl (lv_at hl 0 rfl) ?_
          refine lv_iload_n hC.1 hC.2.1 dL_law_947 rfl (lv_at hl 3 rfl) ?_
          refine lv_iconst (v := 3) hC.1 hC.2.1 dL_law_948 (by decide) ?_
          refine lv_iadd hC.1 hC.2.1 dL_law_949 ?_
          obtain ⟨ok_276, h⟩ := h
          refine va_sld hC.1 hC.2.1 hX hbl hbA hM.2.2.2.2.2.2 ok_276 dL_law_950 ?_
          obtain ⟨ok_279, h⟩ := h
          refine mm_ri hM (mm_V (As := [.int (xs ((x3 + 1) : Int32).toNatClampNeg), .int (xs ((x3 + 2) : Int32).toNatClampNeg), .int (xs ((x3 + 3) : Int32).toNatClampNeg)]) (rest := []) hC hM hl.1 (mX8_front l G b0 S x1 (xs ((x3 + 1) : Int32).toNatClampNeg) (xs ((x3 + 2) : Int32).toNatClampNeg) (xs ((x3 + 3) : Int32).toNatClampNeg) _) h (ci := 8) ok_279 rfl rfl kX8_front tw_644 rfl (by decide) rfl (Nat.le_of_ble_eq_true rfl) dL_law_951 (by decide)) (fun r_278 S_277 H locs h hM => ?_)
          refine lv_aload_n hC.1 hC.2.1 dL_law_954 rfl (lv_at hl 2 rfl) ?_
          refine lv_aload_n hC.1 hC.2.1 dL_law_955 rfl (lv_at hl 0 rfl) ?_
          refine lv_iload_n hC.1 hC.2.1 dL_law_956 rfl (lv_at hl 3 rfl) ?_
          refine lv_iconst (v := 1) hC.1 hC.2.1 dL_law_957 (by decide) ?_
          refine lv_iadd hC.1 hC.2.1 dL_law_958 ?_
          obtain ⟨ok_280, h⟩ := h
          refine va_sld hC.1 hC.2.1 hX hbl hbA hM.2.2.2.2.2.2 ok_280 dL_law_959 ?_
          refine lv_aload_n hC.1 hC.2.1 dL_law_960 rfl (lv_at hl 0 rfl) ?_
          refine lv_iload_n hC.1 hC.2.1 dL_law_961 rfl (lv_at hl 3 rfl) ?_
          refine lv_iconst (v := 2) hC.1 hC.2.1 dL_law_962 (by decide) ?_
          refine lv_iadd hC.1 hC.2.1 dL_law_963 ?_
          obtain ⟨ok_281, h⟩ := h
          refine va_sld hC.1 hC.2.1 hX hbl hbA hM.2.2.2.2.2.2 ok_281 dL_law_964 ?_
          refine lv_aload_n hC.1 hC.2.1 dL_law_965 rfl (lv_at hl 0 rfl) ?_
          refine lv_iload_n hC.1 hC.2.1 dL_law_966 rfl (lv_at hl 3 rfl) ?_
          refine lv_iconst (v := 3) hC.1 hC.2.1 dL_law_967 (by decide) ?_
          refine lv_iadd hC.1 hC.2.1 dL_law_968 ?_
          obtain ⟨ok_282, h⟩ := h
          refine va_sld hC.1 hC.2.1 hX hbl hbA hM.2.2.2.2.2.2 ok_282 dL_law_969 ?_
          obtain ⟨ok_285, h⟩ := h
          refine mm_ri hM (mm_V (As := [.int (xs ((x3 + 1) : Int32).toNatClampNeg), .int (xs ((x3 + 2) : Int32).toNatClampNeg), .int (xs ((x3 + 3) : Int32).toNatClampNeg)]) (rest := [.int r_278]) hC hM hl.1 (mX9_front l G b0 S_277 x2 (xs ((x3 + 1) : Int32).toNatClampNeg) (xs ((x3 + 2) : Int32).toNatClampNeg) (xs ((x3 + 3) : Int32).toNatClampNeg) _) h (ci := 9) ok_285 rfl rfl kX9_front tw_1039 rfl (by decide) rfl (Nat.le_of_ble_eq_true rfl) dL_law_970 (by decide)) (fun r_284 S_283 H locs h hM => ?_)
          refine lv_icmp_eq (tgt := 1117) hC.1 hC.2.1 dL_law_973 (by decide) (fun c_286 => ?_) (fun c_286 => ?_)
          · have h := h.1 c_286
            exact qL_law_1117 hC hr hlk hX hbl hbA hb0 ih _ _ _ _ H locs ls h hM (lv_sub hl [0, 1, 2, 3] rfl)
          · have h := h.2 c_286
            refine lv_iconst (v := 0) hC.1 hC.2.1 dL_law_976 (by decide) ?_
            exact False.elim h
        | 28, _ =>
          intro c_4
          have h := h.2.2.2.2.2.2.2.2.2.2.2.2.2.2.2.2.2.2.2.2.2.2.2.2.2.2.2.2.2.1 (c_4.trans (by decide))
          refine ⟨978, by decide, ?_⟩
          refine lv_aload_n hC.1 hC.2.1 dL_law_978 rfl (lv_at hl 1 rfl) ?_
          refine lv_aload_n hC.1 hC.2.1 dL_law_979 rfl (lv_at hl 0 rfl) ?_
          refine lv_iload_n hC.1 hC.2.1 dL_law_980 rfl (lv_at hl 3 rfl) ?_
          refine lv_iconst (v := 1) hC.1 hC.2.1 dL_law_981 (by decide) ?_
          refine lv_iadd hC.1 hC.2.1 dL_law_982 ?_
          obtain ⟨ok_287, h⟩ := h
          refine va_sld hC.1 hC.2.1 hX hbl hbA hM.2.2.2.2.2.2 ok_287 dL_law_983 ?_
          refine lv_aload_n hC.1 hC.2.1 dL_law_984 rfl (lv_at hl 0 rfl) ?_
          refine lv_iload_n hC.1 hC.2.1 dL_law_985 rfl (lv_at hl 3 rfl) ?_
          refine lv_iconst (v := 2) hC.1 hC.2.1 dL_law_986 (by decide) ?_
          refine lv_iadd hC.1 hC.2.1 dL_law_987 ?_
          obtain ⟨ok_288, h⟩ := h
          refine va_sld hC.1 hC.2.1 hX hbl hbA hM.2.2.2.2.2.2 ok_288 dL_law_988 ?_
          refine lv_aload_n hC.1 hC.2.1 dL_law_989 rfl (lv_at hl 0 rfl) ?_
          refine lv_iload_n hC.1 hC.2.1 dL_law_990 rfl (lv_at hl 3 rfl) ?_
          refine lv_iconst (v := 3) hC.1 hC.2.1 dL_law_991 (by decide) ?_
          refine lv_iadd hC.1 hC.2.1 dL_law_992 ?_
          obtain ⟨ok_289, h⟩ := h
          refine va_sld hC.1 hC.2.1 hX hbl hbA hM.2.2.2.2.2.2 ok_289 dL_law_993 ?_
          obtain ⟨ok_292, h⟩ := h
          refine mm_rl hM (mm_V (As := [.int (xs ((x3 + 1) : Int32).toNatClampNeg), .int (xs ((x3 + 2) : Int32).toNatClampNeg), .int (xs ((x3 + 3) : Int32).toNatClampNeg)]) (rest := []) hC hM hl.1 (mX8_lots l G b0 S x1 (xs ((x3 + 1) : Int32).toNatClampNeg) (xs ((x3 + 2) : Int32).toNatClampNeg) (xs ((x3 + 3) : Int32).toNatClampNeg) _) h (ci := 8) ok_292 rfl rfl kX8_lots tw_675 rfl (by decide) rfl (Nat.le_of_ble_eq_true rfl) dL_law_994 (by decide)) (fun r_291 S_290 H locs h hM => ?_)
          refine lv_aload_n hC.1 hC.2.1 dL_law_997 rfl (lv_at hl 2 rfl) ?_
          refine lv_aload_n hC.1 hC.2.1 dL_law_998 rfl (lv_at hl 0 rfl) ?_
          refine lv_iload_n hC.1 hC.2.1 dL_law_999 rfl (lv_at hl 3 rfl) ?_
          refine lv_iconst (v := 1) hC.1 hC.2.1 dL_law_1000 (by decide) ?_
          refine lv_iadd hC.1 hC.2.1 dL_law_1001 ?_
          obtain ⟨ok_293, h⟩ := h
          refine va_sld hC.1 hC.2.1 hX hbl hbA hM.2.2.2.2.2.2 ok_293 dL_law_1002 ?_
          refine lv_aload_n hC.1 hC.2.1 dL_law_1003 rfl (lv_at hl 0 rfl) ?_
          refine lv_iload_n hC.1 hC.2.1 dL_law_1004 rfl (lv_at hl 3 rfl) ?_
          refine lv_iconst (v := 2) hC.1 hC.2.1 dL_law_1005 (by decide) ?_
          refine lv_iadd hC.1 hC.2.1 dL_law_1006 ?_
          obtain ⟨ok_294, h⟩ := h
          refine va_sld hC.1 hC.2.1 hX hbl hbA hM.2.2.2.2.2.2 ok_294 dL_law_1007 ?_
          refine lv_aload_n hC.1 hC.2.1 dL_law_1008 rfl (lv_at hl 0 rfl) ?_
          refine lv_iload_n hC.1 hC.2.1 dL_law_1009 rfl (lv_at hl 3 rfl) ?_
          refine lv_iconst (v := 3) hC.1 hC.2.1 dL_law_1010 (by decide) ?_
          refine lv_iadd hC.1 hC.2.1 dL_law_1011 ?_
          obtain ⟨ok_295, h⟩ := h
          refine va_sld hC.1 hC.2.1 hX hbl hbA hM.2.2.2.2.2.2 ok_295 dL_law_1012 ?_
          obtain ⟨ok_298, h⟩ := h
          refine mm_rl hM (mm_V (As := [.int (xs ((x3 + 1) : Int32).toNatClampNeg), .int (xs ((x3 + 2) : Int32).toNatClampNeg), .int (xs ((x3 + 3) : Int32).toNatClampNeg)]) (rest := [.long r_291]) hC hM hl.1 (mX9_lots l G b0 S_290 x2 (xs ((x3 + 1) : Int32).toNatClampNeg) (xs ((x3 + 2) : Int32).toNatClampNeg) (xs ((x3 + 3) : Int32).toNatClampNeg) _) h (ci := 9) ok_298 rfl rfl kX9_lots tw_1047 rfl (by decide) rfl (Nat.le_of_ble_eq_true rfl) dL_law_1013 (by decide)) (fun r_297 S_296 H locs h hM => ?_)
          refine W.lcmp hC.1 hC.2.1 dL_law_1016 ?_
          refine lv_if_eq (tgt := 1117) hC.1 hC.2.1 dL_law_1017 (by decide) (fun c_299 => ?_) (fun c_299 => ?_)
          · have h := h.1 c_299
            exact qL_law_1117 hC hr hlk hX hbl hbA hb0 ih _ _ _ _ H locs ls h hM (lv_sub hl [0, 1, 2, 3] rfl)
          · have h := h.2 c_299
            refine lv_iconst (v := 0) hC.1 hC.2.1 dL_law_1020 (by decide) ?_
            exact False.elim h
        | 29, _ =>
          intro c_4
          have h := h.2.2.2.2.2.2.2.2.2.2.2.2.2.2.2.2.2.2.2.2.2.2.2.2.2.2.2.2.2.2.1 (c_4.trans (by decide))
          refine ⟨1022, by decide, ?_⟩
          refine lv_aload_n hC.1 hC.2.1 dL_law_1022 rfl (lv_at hl 1 rfl) ?_
          refine lv_aload_n hC.1 hC.2.1 dL_law_1023 rfl (lv_at hl 0 rfl) ?_
          refine lv_iload_n hC.1 hC.2.1 dL_law_1024 rfl (lv_at hl 3 rfl) ?_
          refine lv_iconst (v := 1) hC.1 hC.2.1 dL_law_1025 (by decide) ?_
          refine lv_iadd hC.1 hC.2.1 dL_law_1026 ?_
          obtain ⟨ok_300, h⟩ := h
          refine va_sld hC.1 hC.2.1 hX hbl hbA hM.2.2.2.2.2.2 ok_300 dL_law_1027 ?_
          obtain ⟨ok_303, h⟩ := h
          refine mm_ri hM (mm_V (As := [.int (xs ((x3 + 1) : Int32).toNatClampNeg)]) (rest := []) hC hM hl.1 (mX8_two l G b0 S x1 (xs ((x3 + 1) : Int32).toNatClampNeg) _) h (ci := 8) ok_303 rfl rfl kX8_two tw_701 rfl (by decide) rfl (Nat.le_of_ble_eq_true rfl) dL_law_1028 (by decide)) (fun r_302 S_301 H locs h hM => ?_)
          refine lv_aload_n hC.1 hC.2.1 dL_law_1031 rfl (lv_at hl 2 rfl) ?_
          refine lv_aload_n hC.1 hC.2.1 dL_law_1032 rfl (lv_at hl 0 rfl) ?_
          refine lv_iload_n hC.1 hC.2.1 dL_law_1033 rfl (lv_at hl 3 rfl) ?_
          refine lv_iconst (v := 1) hC.1 hC.2.1 dL_law_1034 (by decide) ?_
          refine lv_iadd hC.1 hC.2.1 dL_law_1035 ?_
          obtain ⟨ok_304, h⟩ := h
          refine va_sld hC.1 hC.2.1 hX hbl hbA hM.2.2.2.2.2.2 ok_304 dL_law_1036 ?_
          obtain ⟨ok_307, h⟩ := h
          refine mm_ri hM (mm_V (As := [.int (xs ((x3 + 1) : Int32).toNatClampNeg)]) (rest := [.int r_302]) hC hM hl.1 (mX9_two l G b0 S_301 x2 (xs ((x3 + 1) : Int32).toNatClampNeg) _) h (ci := 9) ok_307 rfl rfl kX9_two tw_1061 rfl (by decide) rfl (Nat.le_of_ble_eq_true rfl) dL_law_1037 (by decide)) (fun r_306 S_305 H locs h hM => ?_)
          refine lv_icmp_eq (tgt := 1117) hC.1 hC.2.1 dL_law_1040 (by decide) (fun c_308 => ?_) (fun c_308 => ?_)
          · have h := h.1 c_308
            exact qL_law_1117 hC hr hlk hX hbl hbA hb0 ih _ _ _ _ H locs ls h hM (lv_sub hl [0, 1, 2, 3] rfl)
          · have h := h.2 c_308
            refine lv_iconst (v := 0) hC.1 hC.2.1 dL_law_1043 (by decide) ?_
            exact False.elim h
        | 30, _ =>
          intro c_4
          have h := h.2.2.2.2.2.2.2.2.2.2.2.2.2.2.2.2.2.2.2.2.2.2.2.2.2.2.2.2.2.2.2.1 (c_4.trans (by decide))
          refine ⟨1045, by decide, ?_⟩
          refine lv_aload_n hC.1 hC.2.1 dL_law_1045 rfl (lv_at hl 1 rfl) ?_
          obtain ⟨ok_311, h⟩ := h
          refine mm_ri hM (mm_V (As := []) (rest := []) hC hM hl.1 (mX8_first l G b0 S x1 _) h (ci := 8) ok_311 rfl rfl kX8_first tw_719 rfl (by decide) rfl (Nat.le_of_ble_eq_true rfl) dL_law_1046 (by decide)) (fun r_310 S_309 H locs h hM => ?_)
          refine lv_aload_n hC.1 hC.2.1 dL_law_1049 rfl (lv_at hl 2 rfl) ?_
          obtain ⟨ok_314, h⟩ := h
          refine mm_ri hM (mm_V (As := []) (rest := [.int r_310]) hC hM hl.1 (mX9_first l G b0 S_309 x2 _) h (ci := 9) ok_314 rfl rfl kX9_first tw_1069 rfl (by decide) rfl (Nat.le_of_ble_eq_true rfl) dL_law_1050 (by decide)) (fun r_313 S_312 H locs h hM => ?_)
          refine lv_icmp_eq (tgt := 1117) hC.1 hC.2.1 dL_law_1053 (by decide) (fun c_315 => ?_) (fun c_315 => ?_)
          · have h := h.1 c_315
            exact qL_law_1117 hC hr hlk hX hbl hbA hb0 ih _ _ _ _ H locs ls h hM (lv_sub hl [0, 1, 2, 3] rfl)
          · have h := h.2 c_315
            refine lv_iconst (v := 0) hC.1 hC.2.1 dL_law_1056 (by decide) ?_
            exact False.elim h
        | 31, _ =>
          intro c_4
          have h := h.2.2.2.2.2.2.2.2.2.2.2.2.2.2.2.2.2.2.2.2.2.2.2.2.2.2.2.2.2.2.2.2.1 (c_4.trans (by decide))
          refine ⟨1058, by decide, ?_⟩
          refine lv_aload_n hC.1 hC.2.1 dL_law_1058 rfl (lv_at hl 1 rfl) ?_
          refine lv_aload_n hC.1 hC.2.1 dL_law_1059 rfl (lv_at hl 0 rfl) ?_
          refine lv_iload_n hC.1 hC.2.1 dL_law_1060 rfl (lv_at hl 3 rfl) ?_
          refine lv_iconst (v := 1) hC.1 hC.2.1 dL_law_1061 (by decide) ?_
          refine lv_iadd hC.1 hC.2.1 dL_law_1062 ?_
          obtain ⟨ok_316, h⟩ := h
          refine va_sld hC.1 hC.2.1 hX hbl hbA hM.2.2.2.2.2.2 ok_316 dL_law_1063 ?_
          obtain ⟨ok_319, h⟩ := h
          refine mm_ri hM (mm_V (As := [.int (xs ((x3 + 1) : Int32).toNatClampNeg)]) (rest := []) hC hM hl.1 (mX8_image l G b0 S x1 (xs ((x3 + 1) : Int32).toNatClampNeg) _) h (ci := 8) ok_319 rfl rfl kX8_image tw_736 rfl (by decide) rfl (Nat.le_of_ble_eq_true rfl) dL_law_1064 (by decide)) (fun r_318 S_317 H locs h hM => ?_)
          refine lv_aload_n hC.1 hC.2.1 dL_law_1067 rfl (lv_at hl 2 rfl) ?_
          refine lv_aload_n hC.1 hC.2.1 dL_law_1068 rfl (lv_at hl 0 rfl) ?_
          refine lv_iload_n hC.1 hC.2.1 dL_law_1069 rfl (lv_at hl 3 rfl) ?_
          refine lv_iconst (v := 1) hC.1 hC.2.1 dL_law_1070 (by decide) ?_
          refine lv_iadd hC.1 hC.2.1 dL_law_1071 ?_
          obtain ⟨ok_320, h⟩ := h
          refine va_sld hC.1 hC.2.1 hX hbl hbA hM.2.2.2.2.2.2 ok_320 dL_law_1072 ?_
          obtain ⟨ok_323, h⟩ := h
          refine mm_ri hM (mm_V (As := [.int (xs ((x3 + 1) : Int32).toNatClampNeg)]) (rest := [.int r_318]) hC hM hl.1 (mX9_image l G b0 S_317 x2 (xs ((x3 + 1) : Int32).toNatClampNeg) _) h (ci := 9) ok_323 rfl rfl kX9_image tw_1073 rfl (by decide) rfl (Nat.le_of_ble_eq_true rfl) dL_law_1073 (by decide)) (fun r_322 S_321 H locs h hM => ?_)
          refine lv_icmp_eq (tgt := 1117) hC.1 hC.2.1 dL_law_1076 (by decide) (fun c_324 => ?_) (fun c_324 => ?_)
          · have h := h.1 c_324
            exact qL_law_1117 hC hr hlk hX hbl hbA hb0 ih _ _ _ _ H locs ls h hM (lv_sub hl [0, 1, 2, 3] rfl)
          · have h := h.2 c_324
            refine lv_iconst (v := 0) hC.1 hC.2.1 dL_law_1079 (by decide) ?_
            exact False.elim h
        | 32, _ =>
          intro c_4
          have h := h.2.2.2.2.2.2.2.2.2.2.2.2.2.2.2.2.2.2.2.2.2.2.2.2.2.2.2.2.2.2.2.2.2.1 (c_4.trans (by decide))
          refine ⟨1081, by decide, ?_⟩
          refine lv_aload_n hC.1 hC.2.1 dL_law_1081 rfl (lv_at hl 1 rfl) ?_
          refine lv_aload_n hC.1 hC.2.1 dL_law_1082 rfl (lv_at hl 0 rfl) ?_
          refine lv_iload_n hC.1 hC.2.1 dL_law_1083 rfl (lv_at hl 3 rfl) ?_
          refine lv_iconst (v := 1) hC.1 hC.2.1 dL_law_1084 (by decide) ?_
          refine lv_iadd hC.1 hC.2.1 dL_law_1085 ?_
          obtain ⟨ok_325, h⟩ := h
          refine va_sld hC.1 hC.2.1 hX hbl hbA hM.2.2.2.2.2.2 ok_325 dL_law_1086 ?_
          obtain ⟨ok_328, h⟩ := h
          refine mm_ri hM (mm_V (As := [.int (xs ((x3 + 1) : Int32).toNatClampNeg)]) (rest := []) hC hM hl.1 (mX8_back l G b0 S x1 (xs ((x3 + 1) : Int32).toNatClampNeg) _) h (ci := 8) ok_328 rfl rfl kX8_back tw_747 rfl (by decide) rfl (Nat.le_of_ble_eq_true rfl) dL_law_1087 (by decide)) (fun r_327 S_326 H locs h hM => ?_)
          refine lv_aload_n hC.1 hC.2.1 dL_law_1090 rfl (lv_at hl 2 rfl) ?_
          refine lv_aload_n hC.1 hC.2.1 dL_law_1091 rfl (lv_at hl 0 rfl) ?_
          refine lv_iload_n hC.1 hC.2.1 dL_law_1092 rfl (lv_at hl 3 rfl) ?_
          refine lv_iconst (v := 1) hC.1 hC.2.1 dL_law_1093 (by decide) ?_
          refine lv_iadd hC.1 hC.2.1 dL_law_1094 ?_
          obtain ⟨ok_329, h⟩ := h
          refine va_sld hC.1 hC.2.1 hX hbl hbA hM.2.2.2.2.2.2 ok_329 dL_law_1095 ?_
          obtain ⟨ok_332, h⟩ := h
          refine mm_ri hM (mm_V (As := [.int (xs ((x3 + 1) : Int32).toNatClampNeg)]) (rest := [.int r_327]) hC hM hl.1 (mX9_back l G b0 S_326 x2 (xs ((x3 + 1) : Int32).toNatClampNeg) _) h (ci := 9) ok_332 rfl rfl kX9_back tw_1081 rfl (by decide) rfl (Nat.le_of_ble_eq_true rfl) dL_law_1096 (by decide)) (fun r_331 S_330 H locs h hM => ?_)
          refine lv_icmp_eq (tgt := 1117) hC.1 hC.2.1 dL_law_1099 (by decide) (fun c_333 => ?_) (fun c_333 => ?_)
          · have h := h.1 c_333
            exact qL_law_1117 hC hr hlk hX hbl hbA hb0 ih _ _ _ _ H locs ls h hM (lv_sub hl [0, 1, 2, 3] rfl)
          · have h := h.2 c_333
            refine lv_iconst (v := 0) hC.1 hC.2.1 dL_law_1102 (by decide) ?_
            exact False.elim h
        | 33, _ =>
          intro c_4
          have h := h.2.2.2.2.2.2.2.2.2.2.2.2.2.2.2.2.2.2.2.2.2.2.2.2.2.2.2.2.2.2.2.2.2.2 (c_4.trans (by decide))
          refine ⟨1104, by decide, ?_⟩
          refine lv_aload_n hC.1 hC.2.1 dL_law_1104 rfl (lv_at hl 1 rfl) ?_
          obtain ⟨ok_336, h⟩ := h
          refine mm_ri hM (mm_V (As := []) (rest := []) hC hM hl.1 (mX8_status l G b0 S x1 _) h (ci := 8) ok_336 rfl rfl kX8_status tw_751 rfl (by decide) rfl (Nat.le_of_ble_eq_true rfl) dL_law_1105 (by decide)) (fun r_335 S_334 H locs h hM => ?_)
          refine lv_aload_n hC.1 hC.2.1 dL_law_1108 rfl (lv_at hl 2 rfl) ?_
          obtain ⟨ok_339, h⟩ := h
          refine mm_ri hM (mm_V (As := []) (rest := [.int r_335]) hC hM hl.1 (mX9_status l G b0 S_334 x2 _) h (ci := 9) ok_339 rfl rfl kX9_status tw_1089 rfl (by decide) rfl (Nat.le_of_ble_eq_true rfl) dL_law_1109 (by decide)) (fun r_338 S_337 H locs h hM => ?_)
          refine lv_icmp_eq (tgt := 1117) hC.1 hC.2.1 dL_law_1112 (by decide) (fun c_340 => ?_) (fun c_340 => ?_)
          · have h := h.1 c_340
            exact qL_law_1117 hC hr hlk hX hbl hbA hb0 ih _ _ _ _ H locs ls h hM (lv_sub hl [0, 1, 2, 3] rfl)
          · have h := h.2 c_340
            refine lv_iconst (v := 0) hC.1 hC.2.1 dL_law_1115 (by decide) ?_
            exact False.elim h
        | q + 34, hi => exact absurd hi (by simp)
set_option maxHeartbeats 8000000 in
set_option maxRecDepth 100000 in
theorem qL_law {p : Program} {l : Launch} {e : Env} {s : State} {m : MethodId} {below : List Frame} {meth : Method} {c : Code} {G : Gt} {b0 b L : Nat} {xs : Nat → Int32} (hC : CallFix p m c cL_law 4 s #[Value.ref b] lw_g R_law) (hr : meth.sig.returnType = ret) (hlk : meth.locks = false) (hX : va_X b L xs s s.heap) (hbl : b < s.heap.size) (hbA : ¬ AB b0 b) (hb0 : s.heap.size = b0 + 1) : ∀ (S : St) (H : Heap) (locs : List Loc) (ls : Array Slot), wL_law L xs S → MM G b0 s S H locs → lv_has ls 4 [(0, .ref b)] → W p l e room_1 s m #[Value.ref b] below meth c H locs 0 0 (lw_Z below #[Value.ref b] s) (F0 m 0 ls []) := by
  intro S H locs ls h hM hl
  unfold wL_law at h
  obtain ⟨ok_341, h⟩ := h
  refine mm_new hC hM (ci := 8) (ty := tyX8) ok_341 rfl tyX8_ok dvX8 tw_15 tw_16 tw_1 (by decide) (by decide) dL_law_0 (fun S_342 H eS_342 hM => ?_)
  have h := h S_342 eS_342
  refine lv_dup hC.1 hC.2.1 dL_law_3 rfl ?_
  refine mm_rv hM (mm_I (As := []) (rest := [.ref (b0 + (S.1 + 1))]) hC hM hl.1 (mX8_init l G b0 S_342 (S.1 + 1) _) h kX8_init tw_17 rfl (by decide) rfl (Nat.le_of_ble_eq_true rfl) dL_law_4 (by decide)) (fun S_343 H locs h hM => ?_)
  refine lv_astore_n (lv' := [(1, .ref (b0 + (S.1 + 1))), (0, .ref b)]) hC.1 hC.2.1 dL_law_7 rfl hl (by decide) rfl (fun ls hl => ?_)
  obtain ⟨ok_345, h⟩ := h
  refine mm_new hC hM (ci := 9) (ty := tyX9) ok_345 rfl tyX9_ok dvX9 tw_755 tw_756 tw_11 (by decide) (by decide) dL_law_8 (fun S_346 H eS_346 hM => ?_)
  have h := h S_346 eS_346
  refine lv_dup hC.1 hC.2.1 dL_law_11 rfl ?_
  refine mm_rv hM (mm_I (As := []) (rest := [.ref (b0 + (S_343.1 + 1))]) hC hM hl.1 (mX9_init l G b0 S_346 (S_343.1 + 1) _) h kX9_init tw_757 rfl (by decide) rfl (Nat.le_of_ble_eq_true rfl) dL_law_12 (by decide)) (fun S_347 H locs h hM => ?_)
  refine lv_astore_n (lv' := [(2, .ref (b0 + (S_343.1 + 1))), (1, .ref (b0 + (S.1 + 1))), (0, .ref b)]) hC.1 hC.2.1 dL_law_15 rfl hl (by decide) rfl (fun ls hl => ?_)
  refine lv_iconst (v := 0) hC.1 hC.2.1 dL_law_16 (by decide) ?_
  refine lv_istore_n (lv' := [(3, .int 0), (2, .ref (b0 + (S_343.1 + 1))), (1, .ref (b0 + (S.1 + 1))), (0, .ref b)]) hC.1 hC.2.1 dL_law_17 rfl hl (by decide) rfl (fun ls hl => ?_)
  obtain ⟨n1, h⟩ := h
  exact qL_law_18 hC hr hlk hX hbl hbA hb0 n1 _ _ _ _ H locs ls h hM (lv_sub hl [3, 2, 1, 0] rfl)
