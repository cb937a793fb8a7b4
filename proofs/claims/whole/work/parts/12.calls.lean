/-- contracts: from memory S, with P of the pure world, the method comes back with r and memory S', and K r S' -/
def CI (l : Launch) (G : Gt) (b0 : Nat) (S : St) (y : MethodName) (bytes : ByteArray) (maxL : Nat) (ret : Option FieldType) (rm : Room) (av : List Value) (P : Prop) (K : Int32 → St → Prop) : Prop :=
  Met l y (.code y bytes maxL ret :: lw_g) rm (va_Pc av (fun U => ME G b0 S U ∧ P)) (va_Qi K (ME G b0) (AB b0)) rm.cells rm.slots (AB b0)
def CV (l : Launch) (G : Gt) (b0 : Nat) (S : St) (y : MethodName) (bytes : ByteArray) (maxL : Nat) (ret : Option FieldType) (rm : Room) (av : List Value) (P : Prop) (K : St → Prop) : Prop :=
  Met l y (.code y bytes maxL ret :: lw_g) rm (va_Pc av (fun U => ME G b0 S U ∧ P)) (va_Qv K (ME G b0) (AB b0)) rm.cells rm.slots (AB b0)
def CL (l : Launch) (G : Gt) (b0 : Nat) (S : St) (y : MethodName) (bytes : ByteArray) (maxL : Nat) (ret : Option FieldType) (rm : Room) (av : List Value) (P : Prop) (K : Int64 → St → Prop) : Prop :=
  Met l y (.code y bytes maxL ret :: lw_g) rm (va_Pc av (fun U => ME G b0 S U ∧ P)) (va_Ql K (ME G b0) (AB b0)) rm.cells rm.slots (AB b0)
def okN (y : MethodName) (n : Nat) : Prop := y.cls ≠ "java/lang/invoke/MethodHandle" ∧ y.cls ≠ "java/lang/invoke/VarHandle" ∧ (parseMethodDescriptor y.desc).map (fun d => d.parameters.length) = some n
/-- the tables' words of an instance method, of a static one -/
def VK (y : MethodName) (bytes : ByteArray) (maxL : Nat) (ret : Option FieldType) (n : Nat) : Prop := Cond.instanceMethod y ∈ lw_g ∧ Cond.selects y.cls y y ∈ lw_g ∧ Cond.initialized y.cls ∈ lw_g ∧ Cond.code y bytes maxL ret ∈ lw_g ∧ okN y n
def SK (y : MethodName) (bytes : ByteArray) (maxL : Nat) (ret : Option FieldType) (n : Nat) : Prop := Cond.static y ∈ lw_g ∧ Cond.initialized y.cls ∈ lw_g ∧ Cond.code y bytes maxL ret ∈ lw_g ∧ okN y n
def IK (y : MethodName) (bytes : ByteArray) (maxL : Nat) (n : Nat) : Prop := Cond.instanceMethod y ∈ lw_g ∧ Cond.initialized y.cls ∈ lw_g ∧ Cond.code y bytes maxL none ∈ lw_g ∧ y.name = "<init>" ∧ okN y n
theorem lw_g_good {w : Cond} (h : w ∈ lw_g) : (w.onTables && w.keeps) = true ∨ ∃ ty, w = .arrayClass ty := good_of_word (List.mem_filter.mp h).2
theorem gd_code {y : MethodName} {bytes : ByteArray} {maxL : Nat} {ret : Option FieldType} (h : Cond.code y bytes maxL ret ∈ lw_g) : GoodIn lw_g (.code y bytes maxL ret :: lw_g) := by
  intro w hw
  rcases List.mem_cons.mp hw with e | e
  · subst e; exact ⟨h, lw_g_good h⟩
  · exact ⟨e, lw_g_good e⟩
theorem gd_V {own : String} {idx maxL n : Nat} {y : MethodName} {bytes : ByteArray} {ret : Option FieldType} (hk : VK y bytes maxL ret n) (hl : Cond.methodLink own idx y ∈ lw_g) : GoodIn lw_g (wsV own idx y.cls y (.code y bytes maxL ret :: lw_g)) := by
  intro w hw
  unfold wsV at hw
  rcases List.mem_append.mp hw with h | h
  · have : w ∈ lw_g := by
      simp only [List.mem_cons, List.not_mem_nil, or_false] at h
      rcases h with h | h | h | h <;> subst h
      · exact hl
      · exact hk.1
      · exact hk.2.1
      · exact hk.2.2.1
    exact ⟨this, lw_g_good this⟩
  · exact gd_code hk.2.2.2.1 w h
section MMC
variable {p : Program} {l : Launch} {e : Env} {R : Room} {s : State} {m : MethodId} {args : Array Value} {below : List Frame} {meth : Method} {c : Code} {H : Heap} {locs : List Loc} {cells slots : Nat} {Q : State → Prop}
variable {cc : ByteArray} {pc nL : Nat} {ls : Array Slot} {rest st : List Value} {own : String} {G : Gt} {b0 : Nat} {S : St}
variable {y : MethodName} {bytes : ByteArray} {maxL idx n : Nat} {ret : Option FieldType} {rm : Room} {As : List Value} {P : Prop} {Qc : Array Value → State → Outcome → State → Prop}
theorem Pc_blind {av : List Value} : FrameBlind (va_Pc av (fun U => ME G b0 S U ∧ P)) := fun _ _ _ _ h => ⟨h.1, h.2.1.blind, h.2.2⟩
theorem MM.pre (hM : MM G b0 s S H locs) (hP : P) {av : List Value} : ∀ U : State, U.heap = H → s.WarmedH U.vm → va_Pc av (fun U => ME G b0 S U ∧ P) av.toArray U := fun U hU hW => ⟨rfl, hM.out hU hW, hP⟩
/-- the room of a call -/
abbrev okC (R rm : Room) (maxL : Nat) : Prop := rm.frames + 1 ≤ R.frames ∧ 8 + (maxL + 11) + rm.locals ≤ R.locals
theorem mm_V (hC : CallFix p m c cc nL s args lw_g own) (hM : MM G b0 s S H locs) (hlv : ls.size = nL) {k ci : Nat} {q : vw_C} (hc : Met l y (.code y bytes maxL ret :: lw_g) rm (va_Pc (.ref (b0 + k) :: As) (fun U => ME G b0 S U ∧ P)) Qc rm.cells rm.slots (AB b0)) (hP : P) (ok : okO S ci k) (hq : vwCl[ci]? = some q) (hcl : q.1 = y.cls) (hk : VK y bytes maxL ret n) (hl : Cond.methodLink own idx y ∈ lw_g) (hn : As.length = n) (hR : okC R rm maxL) (hs : st = As.reverse ++ .ref (b0 + k) :: rest) (hW : (rest.map fun v => v.category).sum ≤ 8) (hdg : decode cc pc = .ok (.invokevirtual idx, 3)) (hf : cells + rm.cells ≤ R.cells ∧ slots + rm.slots ≤ R.slots) :
    va_Run p l e R s m args below meth c H locs cells slots rm.cells rm.slots (F0 m pc ls st) rest (Qc (Value.ref (b0 + k) :: As).toArray) (AB b0) := by
  obtain ⟨k1, k2, k3, -, -⟩ := cok_all ci q hq
  have he : (cs G b0 S)[k - 1]? = some (b0 + k, .inr (ci, fl b0 S k ci)) := by rw [hM.at ok, ce_obj ok.2.2 k3]
  obtain ⟨cell, r1, r2, r3⟩ := va_recv hM.1 hM.2.2.2.1 hq he
  exact va_runV (C := y.cls) hC hc (cwV n hC.2.2.2.2 (gd_V hk hl) rfl rfl rfl ⟨rfl, hk.2.2.2.2⟩ hR) ⟨Pc_blind, ⟨cell, r1, r2, by rw [← hcl]; exact r3⟩, hM.pre hP⟩ rfl hn hlv hs (lv_room hW) hdg hf
theorem mm_S (hC : CallFix p m c cc nL s args lw_g own) (hM : MM G b0 s S H locs) (hlv : ls.size = nL) (hc : Met l y (.code y bytes maxL ret :: lw_g) rm (va_Pc As (fun U => ME G b0 S U ∧ P)) Qc rm.cells rm.slots (AB b0)) (hP : P) (hk : SK y bytes maxL ret n) (hl : Cond.methodLink own idx y ∈ lw_g) (hn : As.length = n) (hR : okC R rm maxL) (hs : st = As.reverse ++ rest) (hW : (rest.map fun v => v.category).sum ≤ 8) (hdg : decode cc pc = .ok (.invokestatic idx, 3)) (hf : cells + rm.cells ≤ R.cells ∧ slots + rm.slots ≤ R.slots) :
    va_Run p l e R s m args below meth c H locs cells slots rm.cells rm.slots (F0 m pc ls st) rest (Qc As.toArray) (AB b0) :=
  va_runS hC hc ⟨callB_of n hC.2.2.2.2 (gd_code hk.2.2.1) rfl rfl rfl (hC.2.2.2.2 _ hk.2.1) (hC.2.2.2.2 _ hl) hk.2.2.2 hR, hC.2.2.2.2 _ hk.1⟩ ⟨Pc_blind, hM.pre hP⟩ rfl hn hlv hs (lv_room hW) hdg hf
theorem mm_SN (hC : CallFix p m c cc nL s args lw_g own) (hM : MM G b0 s S H locs) (hlv : ls.size = nL) {host : String} (hc : Met l y (.code y bytes maxL ret :: lw_g) rm (va_Pc As (fun U => ME G b0 S U ∧ P)) Qc rm.cells rm.slots (AB b0)) (hP : P) (hk : SK y bytes maxL ret n) (hl : (own, idx, y, host) ∈ mmN) (hn : As.length = n) (hR : okC R rm maxL) (hs : st = As.reverse ++ rest) (hW : (rest.map fun v => v.category).sum ≤ 8) (hdg : decode cc pc = .ok (.invokestatic idx, 3)) (hf : cells + rm.cells ≤ R.cells ∧ slots + rm.slots ≤ R.slots) :
    va_Run p l e R s m args below meth c H locs cells slots rm.cells rm.slots (F0 m pc ls st) rest (Qc As.toArray) (AB b0) :=
  va_runSN (host := host) hC hc ⟨va_cnB n hC.2.2.2.2 (gd_code hk.2.2.1) rfl rfl rfl (hM.2.1.1 _ hl) (hC.2.2.2.2 _ hk.2.1) hk.2.2.2 hR, hC.2.2.2.2 _ hk.1, trivial⟩ ⟨Pc_blind, hM.pre hP⟩ rfl hn hlv hs (lv_room hW) hdg hf
theorem mm_I (hC : CallFix p m c cc nL s args lw_g own) (hM : MM G b0 s S H locs) (hlv : ls.size = nL) {k : Nat} (hc : Met l y (.code y bytes maxL none :: lw_g) rm (va_Pc (.ref (b0 + k) :: As) (fun U => ME G b0 S U ∧ P)) Qc rm.cells rm.slots (AB b0)) (hP : P) (hk : IK y bytes maxL n) (hl : Cond.methodLink own idx y ∈ lw_g) (hn : As.length = n) (hR : okC R rm maxL) (hs : st = As.reverse ++ .ref (b0 + k) :: rest) (hW : (rest.map fun v => v.category).sum ≤ 8) (hdg : decode cc pc = .ok (.invokespecial idx, 3)) (hf : cells + rm.cells ≤ R.cells ∧ slots + rm.slots ≤ R.slots) :
    va_Run p l e R s m args below meth c H locs cells slots rm.cells rm.slots (F0 m pc ls st) rest (Qc (Value.ref (b0 + k) :: As).toArray) (AB b0) :=
  va_runI hC hc (cwI n hC.2.2.2.2 (gd_code hk.2.2.1) rfl rfl rfl (hC.2.2.2.2 _ hk.2.1) (hC.2.2.2.2 _ hl) (hC.2.2.2.2 _ hk.1) hk.2.2.2.1 hk.2.2.2.2 hR) ⟨Pc_blind, hM.pre hP⟩ rfl hn hlv hs (lv_room hW) hdg hf
theorem mm_IN (hC : CallFix p m c cc nL s args lw_g own) (hM : MM G b0 s S H locs) (hlv : ls.size = nL) {host : String} {k : Nat} (hc : Met l y (.code y bytes maxL none :: lw_g) rm (va_Pc (.ref (b0 + k) :: As) (fun U => ME G b0 S U ∧ P)) Qc rm.cells rm.slots (AB b0)) (hP : P) (hk : IK y bytes maxL n) (hl : (own, idx, y, host) ∈ mmN) (hn : As.length = n) (hR : okC R rm maxL) (hs : st = As.reverse ++ .ref (b0 + k) :: rest) (hW : (rest.map fun v => v.category).sum ≤ 8) (hdg : decode cc pc = .ok (.invokespecial idx, 3)) (hf : cells + rm.cells ≤ R.cells ∧ slots + rm.slots ≤ R.slots) :
    va_Run p l e R s m args below meth c H locs cells slots rm.cells rm.slots (F0 m pc ls st) rest (Qc (Value.ref (b0 + k) :: As).toArray) (AB b0) :=
  va_runIN (host := host) hC hc ⟨va_cnB n hC.2.2.2.2 (gd_code hk.2.2.1) rfl rfl rfl (hM.2.1.1 _ hl) (hC.2.2.2.2 _ hk.2.1) hk.2.2.2.2 hR, hk.2.2.2.1, hC.2.2.2.2 _ hk.1⟩ ⟨Pc_blind, hM.pre hP⟩ rfl hn hlv hs (lv_room hW) hdg hf
theorem mm_ri {a : Array Value} {K : Int32 → St → Prop} (hM : MM G b0 s S H locs) {mc ms : Nat} (hr : va_Run p l e R s m args below meth c H locs cells slots mc ms (F0 m pc ls st) rest (va_Qi K (ME G b0) (AB b0) a) (AB b0))
    (kk : ∀ (r : Int32) (S1 : St) (H1 : Heap) (locs1 : List Loc), K r S1 → MM G b0 s S1 H1 locs1 → W p l e R s m args below meth c H1 locs1 (cells + mc) (slots + ms) Q (F0 m (pc + 3) ls (.int r :: rest))) : W p l e R s m args below meth c H locs cells slots Q (F0 m pc ls st) :=
  va_calli hr hM.2.2.2.2.2.2 (fun _ _ h => h) (fun _ h => h) (fun r u t H1 locs1 ht _ hp hB _ _ hS => kk r u H1 locs1 hp (hM.back ht hB hS))
theorem mm_rv {a : Array Value} {K : St → Prop} (hM : MM G b0 s S H locs) {mc ms : Nat} (hr : va_Run p l e R s m args below meth c H locs cells slots mc ms (F0 m pc ls st) rest (va_Qv K (ME G b0) (AB b0) a) (AB b0))
    (kk : ∀ (S1 : St) (H1 : Heap) (locs1 : List Loc), K S1 → MM G b0 s S1 H1 locs1 → W p l e R s m args below meth c H1 locs1 (cells + mc) (slots + ms) Q (F0 m (pc + 3) ls rest)) : W p l e R s m args below meth c H locs cells slots Q (F0 m pc ls st) :=
  va_callv hr hM.2.2.2.2.2.2 (fun _ _ h => h) (fun _ h => h) (fun u t H1 locs1 ht _ hp hB _ _ hS => kk u H1 locs1 hp (hM.back ht hB hS))
theorem mm_rl {a : Array Value} {K : Int64 → St → Prop} (hM : MM G b0 s S H locs) {mc ms : Nat} (hr : va_Run p l e R s m args below meth c H locs cells slots mc ms (F0 m pc ls st) rest (va_Ql K (ME G b0) (AB b0) a) (AB b0))
    (kk : ∀ (r : Int64) (S1 : St) (H1 : Heap) (locs1 : List Loc), K r S1 → MM G b0 s S1 H1 locs1 → W p l e R s m args below meth c H1 locs1 (cells + mc) (slots + ms) Q (F0 m (pc + 3) ls (.long r :: rest))) : W p l e R s m args below meth c H locs cells slots Q (F0 m pc ls st) :=
  va_calll hr hM.2.2.2.2.2.2 (fun _ _ h => h) (fun _ h => h) (fun r u t H1 locs1 ht _ hp hB _ _ hS => kk r u H1 locs1 hp (hM.back ht hB hS))
theorem mm_iret {v : Int32} {K : Int32 → St → Prop} (hC : CallFix p m c cc nL s args lw_g own) (hr : meth.sig.returnType = some .int) (hlk : meth.locks = false) (hM : MM G b0 s S H locs) (hK : K v S) (hdg : decode cc pc = .ok (.ireturn, 1)) : W p l e R s m args below meth c H locs cells slots (MQ below (va_Qi K (ME G b0) (AB b0)) args s cells slots (AB b0)) (F0 m pc ls [.int v]) :=
  W.iret hC.1 hC.2.1 hr (fun t ht hW => ⟨⟨v, S, rfl, hK, hM.out ht hW⟩, hM.2.2.2.2.2.2.F ht⟩) hM.2.2.2.2.2.2.2.2 hdg hlk
theorem mm_zret {v : Int32} {K : Int32 → St → Prop} (hC : CallFix p m c cc nL s args lw_g own) (hr : meth.sig.returnType = some .boolean) (hlk : meth.locks = false) (hM : MM G b0 s S H locs) (hn : narrow .boolean (.int v) = .int v) (hK : K v S) (hdg : decode cc pc = .ok (.ireturn, 1)) : W p l e R s m args below meth c H locs cells slots (MQ below (va_Qi K (ME G b0) (AB b0)) args s cells slots (AB b0)) (F0 m pc ls [.int v]) :=
  W.zret hC.1 hC.2.1 hr hn (fun t ht hW => ⟨⟨v, S, rfl, hK, hM.out ht hW⟩, hM.2.2.2.2.2.2.F ht⟩) hM.2.2.2.2.2.2.2.2 hdg hlk
theorem mm_lret {v : Int64} {K : Int64 → St → Prop} (hC : CallFix p m c cc nL s args lw_g own) (hr : meth.sig.returnType = some .long) (hlk : meth.locks = false) (hM : MM G b0 s S H locs) (hK : K v S) (hdg : decode cc pc = .ok (.lreturn, 1)) : W p l e R s m args below meth c H locs cells slots (MQ below (va_Ql K (ME G b0) (AB b0)) args s cells slots (AB b0)) (F0 m pc ls [.long v]) :=
  W.lret hC.1 hC.2.1 hr (fun t ht hW => ⟨⟨v, S, rfl, hK, hM.out ht hW⟩, hM.2.2.2.2.2.2.F ht⟩) hM.2.2.2.2.2.2.2.2 hdg hlk
theorem mm_vret {K : St → Prop} (hC : CallFix p m c cc nL s args lw_g own) (hr : meth.sig.returnType = none) (hlk : meth.locks = false) (hM : MM G b0 s S H locs) (hK : K S) (hdg : decode cc pc = .ok (.return_, 1)) : W p l e R s m args below meth c H locs cells slots (MQ below (va_Qv K (ME G b0) (AB b0)) args s cells slots (AB b0)) (F0 m pc ls []) :=
  W.vret hC.1 hC.2.1 hr (fun t ht hW => ⟨⟨S, rfl, hK, hM.out ht hW⟩, hM.2.2.2.2.2.2.F ht⟩) hM.2.2.2.2.2.2.2.2 hdg hlk
theorem fix_of {s₁ : State} (B : BodyLoose p l y (headSpec (.code y cc nL ret :: lw_g) rm) cc nL ret e s m args below meth c s₁) (hml : c.maxLocals = nL) : CallFix p m c cc nL s args lw_g y.cls ∧ meth.sig.returnType = ret ∧ meth.locks = false :=
  ⟨⟨B.exec, B.bytes, hml, findClass_of_methodNamed B.named, fun w hw => atoms_spec (ws := .code y cc nL ret :: lw_g) B.pre w (List.mem_cons_of_mem _ hw)⟩, B.returns, B.notSynchronized⟩
theorem en_lv (vs : List Value) {n : Nat} (h : (lg_sl vs).length ≤ n) {lv : List (Nat × Value)} (hl : lv_args 0 vs = lv) (kk : ∀ ls : Array Slot, lv_has ls n lv → W p l e R s m args below meth c H locs cells slots Q (F0 m 0 ls [])) : W p l e R s m args below meth c H locs cells slots Q (entryFrame m vs.toArray n) := by
  rw [lg_entry_eq]
  exact kk _ (hl ▸ lv_entry vs h)
theorem met_of {lv : List (Nat × Value)} {av : List Value} (hy : plainName y.cls = true) (hlen : (lg_sl av).length ≤ nL) (hlv : lv_args 0 av = lv)
    (body : ∀ (p : Program) (e : Env) (s : State) (m : MethodId) (below : List Frame) (meth : Method) (c : Code), CallFix p m c cc nL s av.toArray lw_g y.cls → meth.sig.returnType = ret → meth.locks = false → (y.name = "<init>" → meth.name = "<init>") → P → ∀ (H : Heap) (locs : List Loc) (ls : Array Slot), MM G b0 s S H locs → lv_has ls nL lv →
      W p l e rm s m av.toArray below meth c H locs 0 0 (MQ below Qc av.toArray s rm.cells rm.slots (AB b0)) (F0 m 0 ls [])) : Met l y (.code y cc nL ret :: lw_g) rm (va_Pc av (fun U => ME G b0 S U ∧ P)) Qc rm.cells rm.slots (AB b0) := by
  refine Met.ofW (cc := cc) (maxL := nL) (ret := ret) hy rfl ?_
  intro p e s m args below meth c s₁ B hml hv
  obtain ⟨rfl, hE, h⟩ := hv
  obtain ⟨hC, hr, hlk⟩ := fix_of B hml
  refine en_lv av hlen hlv (fun ls hl => ?_)
  exact body p e s m below meth c hC hr hlk (fun hi => (name_of_methodNamed B.named B.method).1.trans hi) h s.heap [] ls (MM.start hE) hl
end MMC
