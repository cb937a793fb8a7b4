-- THE MEMORY: every object and array of the class and of the reference is a numbered cell; cell k lies at b0 + k; 0 stands for null.
abbrev St : Type := Nat × (Nat → Nat → Int32) × (Nat → Nat → Nat) × (Nat → Nat → Int64)
def sI (S : St) (k j : Nat) : Int32 := S.2.1 k j
def sR (S : St) (k j : Nat) : Nat := S.2.2.1 k j
def sL (S : St) (k j : Nat) : Int64 := S.2.2.2 k j
def pA (S : St) (k : Nat) (f : Nat → Int32) : St := (S.1, va_up S.2.1 k f, S.2.2.1, S.2.2.2)
def pI (S : St) (k j : Nat) (x : Int32) : St := pA S k (va_up (S.2.1 k) j x)
def pR (S : St) (k j : Nat) (x : Nat) : St := (S.1, S.2.1, va_up S.2.2.1 k (va_up (S.2.2.1 k) j x), S.2.2.2)
def pL (S : St) (k j : Nat) (x : Int64) : St := (S.1, S.2.1, S.2.2.1, va_up S.2.2.2 k (va_up (S.2.2.2 k) j x))
/-- one more cell, all 0 -/
def pN (S : St) : St := (S.1 + 1, va_up S.2.1 (S.1 + 1) (fun _ => 0), va_up S.2.2.1 (S.1 + 1) (fun _ => 0), va_up S.2.2.2 (S.1 + 1) (fun _ => 0))
def nf (ci : Nat) : Nat := (mmF.getD ci []).length
def ft (ci j : Nat) : Nat := (mmF.getD ci []).getD j 0
def kc (k : Nat) : Nat := (mmK.getD k (99, 0)).1
def ln (k : Nat) : Nat := (mmK.getD k (99, 0)).2
def ro (b0 x : Nat) : Option Nat := if x = 0 then none else some (b0 + x)
def fv (b0 : Nat) (S : St) (k ci j : Nat) : Value := if ft ci j = 0 then .int (sI S k j) else if ft ci j = 1 then va_rf (ro b0 (sR S k j)) else .long (sL S k j)
abbrev Gt : Type := va_G × (Nat → ClassId)
def fl (b0 : Nat) (S : St) (k ci : Nat) : List Value := (List.range (nf ci)).map (fv b0 S k ci)
def ce (G : Gt) (b0 : Nat) (S : St) (k : Nat) : va_E :=
  if kc k < 10 then .inr (kc k, fl b0 S k (kc k))
  else if kc k = 10 then .inl (G.2 10, ln k, .inl (sI S k))
  else if kc k = 11 then .inl (G.2 11, ln k, .inl (sI S k))
  else .inl (G.2 (kc k), ln k, .inr (.inr (.inr (.inr (fun j => ro b0 (sR S k j))))))
def cs (G : Gt) (b0 : Nat) (S : St) : va_W := (List.range S.1).map (fun i => (b0 + (i + 1), ce G b0 S (i + 1)))
def tyG (G : Gt) : List (ClassId × FieldType) := [(G.2 10, .int), (G.2 11, .boolean), (G.2 12, .object "LeastRue$Bench"), (G.2 13, .object "LeastRue$Sheet"), (G.2 14, .array .int)]
abbrev AB (b0 : Nat) : Nat → Prop := fun q => b0 < q
theorem cs_get {G : Gt} {b0 : Nat} {S : St} {k : Nat} (h1 : 1 ≤ k) (h2 : k ≤ S.1) : (cs G b0 S)[k - 1]? = some (b0 + k, ce G b0 S k) := by
  unfold cs
  rw [List.getElem?_map, List.getElem?_range (by omega)]
  simp only [Option.map_some]
  rw [show k - 1 + 1 = k by omega]
theorem cs_at {G : Gt} {b0 : Nat} {S : St} {i : Nat} {q : Nat × va_E} (h : (cs G b0 S)[i]? = some q) : i < S.1 ∧ q = (b0 + (i + 1), ce G b0 S (i + 1)) := by
  unfold cs at h
  rw [List.getElem?_map] at h
  by_cases hi : i < S.1
  · rw [List.getElem?_range hi] at h
    simp only [Option.map_some, Option.some.injEq] at h
    exact ⟨hi, h.symm⟩
  · rw [List.getElem?_eq_none (by rw [List.length_range]; omega)] at h
    cases h
theorem cs_D (G : Gt) (b0 : Nat) (S : St) : va_D (AB b0) (cs G b0 S) := by
  refine ⟨fun i j p q hi hj h => ?_, fun k q hk => ?_⟩
  · obtain ⟨-, e1⟩ := cs_at hi
    obtain ⟨-, e2⟩ := cs_at hj
    rw [e1, e2] at h
    simp only at h
    omega
  · obtain ⟨-, e1⟩ := cs_at hk
    rw [e1]
    show b0 < b0 + (k + 1)
    omega
theorem cs_set {G : Gt} {b0 : Nat} {S S' : St} {k : Nat} {e : va_E} (h1 : 1 ≤ k) (h2 : k ≤ S.1) (hn : S'.1 = S.1) (he : ce G b0 S' k = e) (ho : ∀ j, j ≠ k → ce G b0 S' j = ce G b0 S j) : (cs G b0 S).set (k - 1) (b0 + k, e) = cs G b0 S' := by
  apply List.ext_getElem?
  intro i
  have hlen : (cs G b0 S).length = S.1 := by simp [cs]
  by_cases hi : i = k - 1
  · subst hi
    rw [List.getElem?_set_self (by rw [hlen]; omega), cs_get h1 (by rw [hn]; exact h2), he]
  · rw [List.getElem?_set_ne (fun z => hi z.symm)]
    by_cases hl : i < S.1
    · have a := cs_get (G := G) (b0 := b0) (S := S) (k := i + 1) (by omega) (by omega)
      have b := cs_get (G := G) (b0 := b0) (S := S') (k := i + 1) (by omega) (by omega)
      rw [Nat.add_sub_cancel] at a b
      rw [a, b, ho (i + 1) (by omega)]
    · rw [List.getElem?_eq_none (by rw [hlen]; omega), List.getElem?_eq_none (by simp [cs]; omega)]
theorem up_s {α : Type} {f : Nat → α} {k : Nat} {v : α} : va_up f k v k = v := by simp [va_up]
theorem up_n {α : Type} {f : Nat → α} {k j : Nat} {v : α} (h : j ≠ k) : va_up f k v j = f j := by simp [va_up, h]
theorem ce_o {G : Gt} {b0 : Nat} {S S' : St} {j : Nat} (hI : S'.2.1 j = S.2.1 j) (hR : S'.2.2.1 j = S.2.2.1 j) (hL : S'.2.2.2 j = S.2.2.2 j) : ce G b0 S' j = ce G b0 S j := by
  unfold ce fl fv sI sR sL
  rw [hI, hR, hL]
theorem ce_obj {G : Gt} {b0 : Nat} {S : St} {k ci : Nat} (hk : kc k = ci) (hc : ci < 10) : ce G b0 S k = .inr (ci, fl b0 S k ci) := by
  subst hk
  unfold ce
  rw [if_pos hc]
theorem ce_int {G : Gt} {b0 : Nat} {S : St} {k : Nat} (hk : kc k = 10) : ce G b0 S k = .inl (G.2 10, ln k, .inl (sI S k)) := by
  unfold ce
  rw [if_neg (by omega), if_pos hk]
theorem ce_boo {G : Gt} {b0 : Nat} {S : St} {k : Nat} (hk : kc k = 11) : ce G b0 S k = .inl (G.2 11, ln k, .inl (sI S k)) := by
  unfold ce
  rw [if_neg (by omega), if_neg (by omega), if_pos hk]
theorem ce_ref {G : Gt} {b0 : Nat} {S : St} {k t : Nat} (hk : kc k = t) (ht : 12 ≤ t) : ce G b0 S k = .inl (G.2 t, ln k, .inr (.inr (.inr (.inr (fun j => ro b0 (sR S k j)))))) := by
  subst hk
  unfold ce
  rw [if_neg (by omega), if_neg (by omega), if_neg (by omega)]
theorem fl_get {b0 : Nat} {S : St} {k ci j : Nat} (hj : j < nf ci) : (fl b0 S k ci)[j]? = some (fv b0 S k ci j) := by
  unfold fl
  rw [List.getElem?_map, List.getElem?_range hj]
  rfl
theorem fl_len {b0 : Nat} {S : St} {k ci : Nat} : (fl b0 S k ci).length = nf ci := by simp [fl]
theorem fl_set {b0 : Nat} {S S' : St} {k ci j : Nat} {v : Value} (hj : j < nf ci) (hv : fv b0 S' k ci j = v) (ho : ∀ i, i ≠ j → fv b0 S' k ci i = fv b0 S k ci i) : (fl b0 S k ci).set j v = fl b0 S' k ci := by
  apply List.ext_getElem?
  intro i
  by_cases hi : i = j
  · subst hi
    rw [List.getElem?_set_self (by rw [fl_len]; exact hj), fl_get hj, hv]
  · rw [List.getElem?_set_ne (fun z => hi z.symm)]
    by_cases hl : i < nf ci
    · rw [fl_get hl, fl_get hl, ho i hi]
    · rw [List.getElem?_eq_none (by rw [fl_len]; omega), List.getElem?_eq_none (by rw [fl_len]; omega)]
def AOI (U : State) : Prop := (Cond.arrayOver (.array .int)).before #[] U = true
theorem AOI.any {A : Array Value} {U : State} (h : AOI U) : (Cond.arrayOver (.array .int)).before A U = true := h
theorem AOI.of {A : Array Value} {U : State} (h : (Cond.arrayOver (.array .int)).before A U = true) : AOI U := h
theorem AOI.moved {u U : State} (hal : u.vm.Alike U.vm) (h : AOI u) : AOI U := by
  unfold AOI Cond.before Cond.holds at h ⊢
  simp only [Cond.value] at h ⊢
  have hf : ∀ n : String, U.vm.findClass n = u.vm.findClass n := fun n => hal.findClass n _
  rw [hf]
  cases h1 : u.vm.findClass (FieldType.array FieldType.int).toString with
  | none => rw [h1] at h; simp at h
  | some comp =>
    rw [h1] at h
    rw [Option.bind_some] at h ⊢
    rw [hal.findIdx?_eqK _ (fun _ => rfl)]
    generalize Array.findIdx? _ u.vm.classes = z at h ⊢
    cases z with
    | none => simp at h
    | some c =>
      rw [Option.bind_some] at h ⊢
      cases h3 : u.vm.classes[c]? with
      | none => rw [h3] at h; simp at h
      | some k =>
        obtain ⟨k', hk', he⟩ := hal.2.2 _ _ h3
        rw [h3] at h
        rw [hk', Option.map_some, he, hf]
        rw [Option.map_some] at h
        exact h
theorem AOI.cls {s : State} (h : AOI s) : ∃ c : ClassId, ArrOfT s c (.array .int) ∧ va_RA s c (.array .int) := by
  obtain ⟨comp, c, k, h1, h2, h3, h4⟩ := Cond.arrayOver_specA h
  exact ⟨c, fun n z => ⟨fun k h => (by cases h), k, h2, comp, h3⟩, h4⟩
/-- what the tables say besides: calls of private members of nest mates -/
def NS (U : State) : Prop := (∀ q ∈ mmN, va_Nw (.methodLinkNest q.1 q.2.1 q.2.2.1 q.2.2.2) U) ∧ va_AO "LeastRue$Sheet" U ∧ va_AO "LeastRue$Bench" U ∧ AOI U
/-- the class's static rows -/
def SS (b0 : Nat) (U : State) : Prop := ∃ t1 t2 : Nat, va_Z "LeastRue" "LEAST_K" "[I" (.ref t1) (AB b0) U U.heap ∧ va_T .int t1 4 (fun j => .int (mmL.getD j 0)) (AB b0) U U.heap ∧ va_Z "LeastRue" "MOST_K" "[I" (.ref t2) (AB b0) U U.heap ∧ va_T .int t2 4 (fun j => .int (mmM.getD j 0)) (AB b0) U U.heap
theorem NS.warm {s U : State} (hW : s.WarmedH U.vm) (h : NS s) : NS U := ⟨fun q hq => va_Nw.warmM hW (h.1 q hq), va_AO.moved hW.alike h.2.1, va_AO.moved hW.alike h.2.2.1, AOI.moved hW.alike h.2.2.2⟩
theorem NS.same {u U : State} (hv : u.vm = U.vm) (h : NS u) : NS U := ⟨fun q hq => va_Nw.same rfl hv (h.1 q hq), va_AO.moved (by rw [hv]; exact Vm.Alike.refl _) h.2.1, va_AO.moved (by rw [hv]; exact Vm.Alike.refl _) h.2.2.1, AOI.moved (by rw [hv]; exact Vm.Alike.refl _) h.2.2.2⟩
theorem SS.moved {b0 : Nat} {u U : State} (hvm : u.vm.Alike U.vm) (hq : ∀ a : Nat, a < u.heap.size → ¬ AB b0 a → U.heap[a]? = u.heap[a]?) (h : SS b0 u) : SS b0 U := by
  obtain ⟨t1, t2, h1, h2, h3, h4⟩ := h
  exact ⟨t1, t2, (h1.moved hvm).kept hq, (h2.moved hvm).kept hq, (h3.moved hvm).kept hq, (h4.moved hvm).kept hq⟩
/-- the memory at a method's start and end -/
def ME (G : Gt) (b0 : Nat) (S : St) (U : State) : Prop := va_K G.1 vwCl (tyG G) U ∧ NS U ∧ SS b0 U ∧ va_P G.1 vwCl (cs G b0 S) U.heap ∧ U.heap.size = b0 + 1 + S.1
/-- the memory within a method that began at s -/
def MM (G : Gt) (b0 : Nat) (s : State) (S : St) (H : Heap) (locs : List Loc) : Prop := va_K G.1 vwCl (tyG G) s ∧ NS s ∧ SS b0 s ∧ va_P G.1 vwCl (cs G b0 S) H ∧ H.size = b0 + 1 + S.1 ∧ b0 < s.heap.size ∧ va_S (AB b0) s.heap H locs
theorem MM.start {G : Gt} {b0 : Nat} {S : St} {s : State} (h : ME G b0 S s) : MM G b0 s S s.heap [] := ⟨h.1, h.2.1, h.2.2.1, h.2.2.2.1, h.2.2.2.2, by rw [h.2.2.2.2]; omega, va_S.rf⟩
theorem MM.out {G : Gt} {b0 : Nat} {S : St} {s t : State} {H : Heap} {locs : List Loc} (h : MM G b0 s S H locs) (ht : t.heap = H) (hW : s.WarmedH t.vm) : ME G b0 S t := by
  obtain ⟨h1, h2, h3, h4, h5, h6, h7⟩ := h
  subst ht
  exact ⟨va_K.moved hW.alike h1, h2.warm hW, h3.moved hW.alike h7.2.1, h4, h5⟩
theorem ME.blind {G : Gt} {b0 : Nat} {S : St} {U : State} {g : JFrame} {mk : MethodId} {a : Array Value} (h : ME G b0 S U) : ME G b0 S (U.calling g mk a) := ⟨va_K.moved (u := U) (U := U.calling g mk a) (Vm.Alike.refl U.vm) h.1, NS.same (u := U) rfl h.2.1, SS.moved (u := U) (U := U.calling g mk a) (Vm.Alike.refl U.vm) (fun _ _ _ => rfl) h.2.2.1, h.2.2.2.1, h.2.2.2.2⟩
/-- behind a call -/
theorem MM.back {G : Gt} {b0 : Nat} {S S' : St} {s t : State} {H H1 : Heap} {locs locs1 : List Loc} (h : MM G b0 s S H locs) (ht : t.heap = H1) (hB : ME G b0 S' t) (hS : va_S (AB b0) s.heap H1 locs1) : MM G b0 s S' H1 locs1 := by
  obtain ⟨h1, h2, h3, h4, h5, h6, h7⟩ := h
  subst ht
  exact ⟨h1, h2, h3, hB.2.2.2.1, hB.2.2.2.2, h6, hS⟩
/-- a cell has become another -/
theorem MM.upd {G : Gt} {b0 : Nat} {S S' : St} {s : State} {H H1 : Heap} {locs locs1 : List Loc} {k : Nat} {e : va_E} (h : MM G b0 s S H locs) (h1 : 1 ≤ k) (h2 : k ≤ S.1) (hn : S'.1 = S.1) (he : ce G b0 S' k = e) (ho : ∀ j, j ≠ k → ce G b0 S' j = ce G b0 S j) (hP : va_P G.1 vwCl ((cs G b0 S).set (k - 1) (b0 + k, e)) H1) (hz : H1.size = H.size) (hS : va_S (AB b0) s.heap H1 locs1) : MM G b0 s S' H1 locs1 := by
  obtain ⟨g1, g2, g3, g4, g5, g6, g7⟩ := h
  rw [cs_set h1 h2 hn he ho] at hP
  exact ⟨g1, g2, g3, hP, by rw [hz, g5, hn], g6, hS⟩
def okO (S : St) (ci k : Nat) : Prop := 1 ≤ k ∧ k ≤ S.1 ∧ kc k = ci
def okA (S : St) (t k : Nat) (i : Int32) : Prop := (1 ≤ k ∧ k ≤ S.1 ∧ kc k = t) ∧ vp_in i (ln k)
