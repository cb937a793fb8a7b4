theorem law_loop {L : Nat} {xs : Nat → Int32} (hL : L ≤ 2048) : ∀ (n i : Nat) (S : St), J S → i ≤ L + 4 → L + 8 - i < n → wL_law_18 L xs n 1 108 (nI i) S
  | 0, i, S, _, _, h => absurd h (by omega)
  | n + 1, i, S, hJ, hi, hn => by
    have ih := law_loop (xs := xs) hL n
    obtain ⟨β, h⟩ := hJ
    have hr := h.1.1.1
    have e4 : (4 : Int32).toInt = 4 := by decide
    have eL : (Int32.ofNat L).toInt = (L : Int) := nI_toInt (n31 (show L < 2147483648 by omega))
    have el : ((Int32.ofNat L) - 4).toInt = (L : Int) - 4 := by rw [fb_subI (by rw [eL, e4]; omega) (by rw [eL, e4]; omega), eL, e4]
    have ei := nI_toInt (n31 (show i < 2147483648 by omega))
    rw [wL_law_18]
    refine ⟨fun _ => trivial, fun c => ?_⟩
    rw [fa_lt, el, ei] at c
    have hin : i + 4 ≤ L := by omega
    have nx : ∀ S2, J S2 → wL_law_1117 L xs (wL_law_18 L xs n) 1 108 (nI i) S2 := fun S2 j2 x ex => by
      rw [ex, show (4 : Int32) = nI 4 from rfl, nI_add]
      exact ih (i + 4) S2 j2 (by omega) (by omega)
    have v0 : vp_in (nI i) L := vp_in_nI (by omega) (n31 (by omega))
    have v1 : vp_in (nI i + 1) L := by rw [nI_1]; exact vp_in_nI (by omega) (n31 (by omega))
    have v2 : vp_in (nI i + 2) L := by rw [show (2 : Int32) = nI 2 from rfl, nI_add]; exact vp_in_nI (by omega) (n31 (by omega))
    have v3 : vp_in (nI i + 3) L := by rw [show (3 : Int32) = nI 3 from rfl, nI_add]; exact vp_in_nI (by omega) (n31 (by omega))
    refine ⟨v0, fun _ => nx S ⟨β, h⟩, fun _ => ?_, fun _ => ?_, fun _ => ?_, fun _ => ?_, fun _ => ?_, fun _ => ?_, fun _ => ?_, fun _ => ?_, fun _ => ?_, fun _ => ?_, fun _ => ?_, fun _ => ?_, fun _ => ?_, fun _ => ?_, fun _ => ?_, fun _ => ?_, fun _ => ?_, fun _ => ?_, fun _ => ?_, fun _ => ?_, fun _ => ?_, fun _ => ?_, fun _ => ?_, fun _ => ?_, fun _ => ?_, fun _ => ?_, fun _ => ?_, fun _ => ?_, fun _ => ?_, fun _ => ?_, fun _ => ?_, fun _ => ?_, fun _ => ?_, fun _ => ?_⟩
    · exact ⟨v1, v2, ok_O hr.1 (by decide), s_thing h (fun r S1 hr1 k => ⟨v1, v2, ok_O hr1.1 (by decide), k _ (fun S2 j2 => ⟨fun _ => nx S2 j2, fun q => absurd rfl q⟩)⟩)⟩
    · exact ⟨v1, v2, v3, ok_O hr.1 (by decide), s_ends h (fun r S1 hr1 k => ⟨v1, v2, v3, ok_O hr1.1 (by decide), k _ (fun S2 j2 => ⟨fun _ => nx S2 j2, fun q => absurd rfl q⟩)⟩)⟩
    · exact ⟨v1, v2, v3, ok_O hr.1 (by decide), s_posts h (fun r S1 hr1 k => ⟨v1, v2, v3, ok_O hr1.1 (by decide), k _ (fun S2 j2 => ⟨fun _ => nx S2 j2, fun q => absurd rfl q⟩)⟩)⟩
    · exact ⟨v1, v2, ok_O hr.1 (by decide), s_price h (fun r S1 hr1 k => ⟨v1, v2, ok_O hr1.1 (by decide), k _ (fun S2 j2 => ⟨fun _ => nx S2 j2, fun q => absurd rfl q⟩)⟩)⟩
    · exact ⟨v1, v2, ok_O hr.1 (by decide), s_kind h (fun r S1 hr1 k => ⟨v1, v2, ok_O hr1.1 (by decide), k _ (fun S2 j2 => ⟨fun _ => nx S2 j2, fun q => absurd rfl q⟩)⟩)⟩
    · exact ⟨v1, v2, v3, ok_O hr.1 (by decide), s_sheet h (fun r S1 hr1 k => ⟨v1, v2, v3, ok_O hr1.1 (by decide), k _ (fun S2 j2 => ⟨fun _ => nx S2 j2, fun q => absurd rfl q⟩)⟩)⟩
    · exact ⟨v1, v2, v3, ok_O hr.1 (by decide), s_write h (fun r S1 hr1 k => ⟨v1, v2, v3, ok_O hr1.1 (by decide), k _ (fun S2 j2 => ⟨fun _ => nx S2 j2, fun q => absurd rfl q⟩)⟩)⟩
    · exact ⟨v1, v2, v3, ok_O hr.1 (by decide), s_world h (fun r S1 hr1 k => ⟨v1, v2, v3, ok_O hr1.1 (by decide), k _ (fun S2 j2 => ⟨fun _ => nx S2 j2, fun q => absurd rfl q⟩)⟩)⟩
    · exact ⟨v1, ok_O hr.1 (by decide), s_forget h (fun r S1 hr1 k => ⟨v1, ok_O hr1.1 (by decide), k _ (fun S2 j2 => ⟨fun _ => nx S2 j2, fun q => absurd rfl q⟩)⟩)⟩
    · exact ⟨v1, ok_O hr.1 (by decide), s_count h (fun r S1 hr1 k => ⟨v1, ok_O hr1.1 (by decide), k _ (fun S2 j2 => ⟨fun _ => nx S2 j2, fun q => absurd rfl q⟩)⟩)⟩
    · exact ⟨v1, ok_O hr.1 (by decide), s_choice h (fun r S1 hr1 k => ⟨v1, ok_O hr1.1 (by decide), k _ (fun S2 j2 => ⟨fun _ => nx S2 j2, fun q => absurd rfl q⟩)⟩)⟩
    · exact ⟨v1, ok_O hr.1 (by decide), s_find h (fun r S1 hr1 k => ⟨v1, ok_O hr1.1 (by decide), k _ (fun S2 j2 => ⟨fun _ => nx S2 j2, fun q => absurd rfl q⟩)⟩)⟩
    · exact ⟨v1, v2, ok_O hr.1 (by decide), s_of h (fun r S1 hr1 k => ⟨v1, v2, ok_O hr1.1 (by decide), k _ (fun S2 j2 => ⟨fun _ => nx S2 j2, fun q => absurd rfl q⟩)⟩)⟩
    · exact ⟨v1, v2, ok_O hr.1 (by decide), s_cost h (fun r S1 hr1 k => ⟨v1, v2, ok_O hr1.1 (by decide), k _ (fun S2 j2 => ⟨fun _ => nx S2 j2, fun q => absurd rfl q⟩)⟩)⟩
    · exact ⟨v1, ok_O hr.1 (by decide), s_cheapest h (fun r S1 hr1 k => ⟨v1, ok_O hr1.1 (by decide), k _ (fun S2 j2 => ⟨fun _ => nx S2 j2, fun q => absurd rfl q⟩)⟩)⟩
    · exact ⟨v1, ok_O hr.1 (by decide), s_rue h (fun r S1 hr1 k => ⟨v1, ok_O hr1.1 (by decide), k _ (fun S2 j2 => ⟨fun _ => nx S2 j2, fun q => absurd rfl q⟩)⟩)⟩
    · exact ⟨v1, ok_O hr.1 (by decide), s_rival h (fun r S1 hr1 k => ⟨v1, ok_O hr1.1 (by decide), k _ (fun S2 j2 => ⟨fun _ => nx S2 j2, fun q => absurd rfl q⟩)⟩)⟩
    · exact ⟨ok_O hr.1 (by decide), s_best h (fun r S1 hr1 k => ⟨ok_O hr1.1 (by decide), k _ (fun S2 j2 => ⟨fun _ => nx S2 j2, fun q => absurd rfl q⟩)⟩)⟩
    · exact ⟨ok_O hr.1 (by decide), s_many h (fun r S1 hr1 k => ⟨ok_O hr1.1 (by decide), k _ (fun S2 j2 => ⟨fun _ => nx S2 j2, fun q => absurd rfl q⟩)⟩)⟩
    · exact ⟨ok_O hr.1 (by decide), s_middle h (fun r S1 hr1 k => ⟨ok_O hr1.1 (by decide), k _ (fun S2 j2 => ⟨fun _ => nx S2 j2, fun q => absurd rfl q⟩)⟩)⟩
    · exact ⟨v1, ok_O hr.1 (by decide), s_hold h (fun r S1 hr1 k => ⟨v1, ok_O hr1.1 (by decide), k _ (fun S2 j2 => ⟨fun _ => nx S2 j2, fun q => absurd rfl q⟩)⟩)⟩
    · exact ⟨v1, v2, ok_O hr.1 (by decide), s_dearest h (fun r S1 hr1 k => ⟨v1, v2, ok_O hr1.1 (by decide), k _ (fun S2 j2 => ⟨fun _ => nx S2 j2, fun q => absurd rfl q⟩)⟩)⟩
    · exact ⟨v1, ok_O hr.1 (by decide), s_few h (fun r S1 hr1 k => ⟨v1, ok_O hr1.1 (by decide), k _ (fun S2 j2 => ⟨fun _ => nx S2 j2, fun q => absurd rfl q⟩)⟩)⟩
    · exact ⟨v1, v2, ok_O hr.1 (by decide), s_costIn h (fun r S1 hr1 k => ⟨v1, v2, ok_O hr1.1 (by decide), k _ (fun S2 j2 => ⟨fun _ => nx S2 j2, fun q => absurd rfl q⟩)⟩)⟩
    · exact ⟨v1, ok_O hr.1 (by decide), s_cheapestIn h (fun r S1 hr1 k => ⟨v1, ok_O hr1.1 (by decide), k _ (fun S2 j2 => ⟨fun _ => nx S2 j2, fun q => absurd rfl q⟩)⟩)⟩
    · exact ⟨v1, ok_O hr.1 (by decide), s_rueOf h (fun r S1 hr1 k => ⟨v1, ok_O hr1.1 (by decide), k _ (fun S2 j2 => ⟨fun _ => nx S2 j2, fun q => absurd rfl q⟩)⟩)⟩
    · exact ⟨ok_O hr.1 (by decide), s_bestOf h (fun r S1 hr1 k => ⟨ok_O hr1.1 (by decide), k _ (fun S2 j2 => ⟨fun _ => nx S2 j2, fun q => absurd rfl q⟩)⟩)⟩
    · exact ⟨v1, v2, v3, ok_O hr.1 (by decide), s_front h (fun r S1 hr1 k => ⟨v1, v2, v3, ok_O hr1.1 (by decide), k _ (fun S2 j2 => ⟨fun _ => nx S2 j2, fun q => absurd rfl q⟩)⟩)⟩
    · exact ⟨v1, v2, v3, ok_O hr.1 (by decide), s_lots h (fun r S1 hr1 k => ⟨v1, v2, v3, ok_O hr1.1 (by decide), k _ (fun S2 j2 => ⟨fun _ => nx S2 j2, fun q => absurd ((lg_cmp_eq r r).mpr rfl) q⟩)⟩)⟩
    · exact ⟨v1, ok_O hr.1 (by decide), s_two h (fun r S1 hr1 k => ⟨v1, ok_O hr1.1 (by decide), k _ (fun S2 j2 => ⟨fun _ => nx S2 j2, fun q => absurd rfl q⟩)⟩)⟩
    · exact ⟨ok_O hr.1 (by decide), s_first h (fun r S1 hr1 k => ⟨ok_O hr1.1 (by decide), k _ (fun S2 j2 => ⟨fun _ => nx S2 j2, fun q => absurd rfl q⟩)⟩)⟩
    · exact ⟨v1, ok_O hr.1 (by decide), s_image h (fun r S1 hr1 k => ⟨v1, ok_O hr1.1 (by decide), k _ (fun S2 j2 => ⟨fun _ => nx S2 j2, fun q => absurd rfl q⟩)⟩)⟩
    · exact ⟨v1, ok_O hr.1 (by decide), s_back h (fun r S1 hr1 k => ⟨v1, ok_O hr1.1 (by decide), k _ (fun S2 j2 => ⟨fun _ => nx S2 j2, fun q => absurd rfl q⟩)⟩)⟩
    · exact ⟨ok_O hr.1 (by decide), s_status h (fun r S1 hr1 k => ⟨ok_O hr1.1 (by decide), k _ (fun S2 j2 => ⟨fun _ => nx S2 j2, fun q => absurd rfl q⟩)⟩)⟩
theorem law_pure (L : Nat) (xs : Nat → Int32) (hL : L ≤ 2048) : wL_law L xs S00 := by
  have b0 : BS S00 0 [] [] := ⟨rfl, fun _ _ => rfl, fun _ _ => rfl, fun _ _ _ => ⟨rfl, rfl⟩⟩
  refine ⟨by decide, fun S1 e1 => ?_⟩
  have b1 : BS S1 1 [] [] := by rw [e1]; exact b0.n
  refine i8 b1 (fun S2 b2 => ?_)
  rw [b2.1]
  refine ⟨by decide, fun S3 e3 => ?_⟩
  have b3 : BS S3 108 qA wA := by rw [e3]; exact b2.n
  exact i9 b3 (fun S4 b4 => inv0 b4 _ (fun S5 j5 => ⟨L + 9, law_loop hL (L + 9) 0 S5 j5 (by omega) (by omega)⟩))
theorem whole_start {p : Program} {e : Env} {s : State} {m : MethodId} {below : List Frame} {meth : Method} {c : Code} (l : Launch) {b L : Nat} {xs : Nat → Int32} (hL : L ≤ 2048) (C0 : lw_At p s m meth c b L xs) : W p l e room_1 s m #[Value.ref b] below meth c s.heap [] 0 0 (lw_Z below #[Value.ref b] s) (entryFrame m ([Value.ref b] : List Value).toArray 4) :=
  whole_start_open law_pure l hL C0
