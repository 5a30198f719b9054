/-! THE LAW: its loop, its start -/
theorem wiA1 : Cond.classLink "SacredHensLaw" 7 "SacredHens" ∈ hWS := hWS_in (i := 19) (by decide +kernel) (by decide +kernel)
theorem wiA2 : Cond.instantiable "SacredHens" 12 ∈ hWS := hWS_in (i := 20) (by decide +kernel) (by decide +kernel)
theorem wiA3 : Cond.initialized "SacredHens" ∈ hWS := hWS_in (i := 1) (by decide +kernel) (by decide +kernel)
theorem wiA4 : Cond.methodLink "SacredHensLaw" 9 ⟨"SacredHens", "<init>", "()V"⟩ ∈ hWS := hWS_in (i := 21) (by decide +kernel) (by decide +kernel)
theorem wiA5 : Cond.instanceMethod ⟨"SacredHens", "<init>", "()V"⟩ ∈ hWS := hWS_in (i := 22) (by decide +kernel) (by decide +kernel)
theorem wiA6 : Cond.code ⟨"SacredHens", "<init>", "()V"⟩ prog_1_method_1_code 2 Option.none ∈ hWS := hWS_in (i := 23) (by decide +kernel) (by decide +kernel)
theorem wiB1 : Cond.classLink "SacredHensLaw" 10 "SacredHensModel" ∈ hWS := hWS_in (i := 1210) (by decide +kernel) (by decide +kernel)
theorem wiB2 : Cond.instantiable "SacredHensModel" 42 ∈ hWS := hWS_in (i := 1211) (by decide +kernel) (by decide +kernel)
theorem wiB3 : Cond.initialized "SacredHensModel" ∈ hWS := hWS_in (i := 11) (by decide +kernel) (by decide +kernel)
theorem wiB4 : Cond.methodLink "SacredHensLaw" 12 ⟨"SacredHensModel", "<init>", "()V"⟩ ∈ hWS := hWS_in (i := 1212) (by decide +kernel) (by decide +kernel)
theorem wiB5 : Cond.instanceMethod ⟨"SacredHensModel", "<init>", "()V"⟩ ∈ hWS := hWS_in (i := 1213) (by decide +kernel) (by decide +kernel)
theorem wiB6 : Cond.code ⟨"SacredHensModel", "<init>", "()V"⟩ prog_12_method_1_code 1 Option.none ∈ hWS := hWS_in (i := 1214) (by decide +kernel) (by decide +kernel)
theorem Fh_w0 : Fh w0 0 := fun _ _ _ => ⟨rfl, rfl, rfl⟩
theorem key_127 (x : Int32) : ∃ k, k < 128 ∧ x &&& 127 = nI k := by
  obtain ⟨n, hn⟩ : ∃ n : Nat, x = nI n := ⟨x.toBitVec.toNat, by
    apply Int32.toBitVec_inj.mp
    show x.toBitVec = BitVec.ofNat 32 x.toBitVec.toNat
    simp⟩
  refine ⟨n % 2 ^ 7, Nat.mod_lt _ (by decide), ?_⟩
  rw [hn]
  exact fa_mask n 7
theorem turn_le {i L : Nat} (hL : L ≤ 3072) (hi : i ≤ L) (h : ¬ nI L - 6 < nI i) : i + 6 ≤ L := by
  apply Nat.le_of_not_lt
  intro hlt
  apply h
  by_cases h6 : 6 ≤ L
  · have e : nI L - 6 = nI (L - 6) := nI_subI (b := 6) h6
    rw [e]
    exact nI_lt (by omega) (by omega)
  · have hn : ∀ l, l < 6 → (nI l - 6).toInt < 0 := by decide +kernel
    have := hn L (by omega)
    rw [fa_lt, nI_toInt (by omega)]
    omega
theorem turn_in {i L : Nat} (hL : L ≤ 3072) (h6 : i + 6 ≤ L) (j : Int32) (h0 : 0 ≤ j) (h5 : j ≤ 5) : vp_in (nI i + j) L := by
  obtain ⟨k, hk, rfl⟩ := nI_of2 (M := 5) (n := 5) rfl (Int32.not_lt.mpr h0) h5
  rw [nI_add]
  exact vp_in_nI (by omega) (by omega)
theorem lw_turn {G : Gx} {b L i : Nat} {xs : Nat → Int32} {w : HW} (C : Cx G code "SacredHensLaw" 4 15 560) (X : Lx G b L xs) (hL : L ≤ 3072) (H : Rel w) (hi : i ≤ L) (again : i + 6 ≤ L → ∀ w1, Rel w1 → Sm G () 18 (LV G b (i + 6)) [] w1 (some ())) : Sm G () 18 (LV G b i) [] w (some ()) := by
  refine sm_iload_n C 0 rfl dL_18 rfl ?_
  refine sm_aload_n C 3 rfl dL_19 rfl ?_
  refine sl_slen C X dL_20 ?_
  refine sm_bipush C (v := 6) (by decide) dL_21 ?_
  refine sm_isub C dL_23 ?_
  refine sl_icmp_gt C dL_24 (tgt := 2288) rfl (fun h => ?_) (fun h => ?_)
  · have h6 : i + 6 ≤ L := turn_le hL hi h
    have next : ∀ w1, Rel w1 → Sm G () 2282 (LV G b i) [] w1 (some ()) := by
      intro w1 H1
      refine sm_iinc (lv1 := LV G b (i + 6)) C 0 rfl (n := 6) (v := nI (i + 6)) (show nI i + Int32.ofInt 6 = nI (i + 6) from nI_add i 6) dL_2282 rfl rfl ?_
      refine sm_goto C dL_2285 (tgt := 18) rfl ?_
      exact again h6 w1 H1
    refine sm_aload_n C 3 rfl dL_27 rfl ?_
    refine sm_iload_n C 0 rfl dL_28 rfl ?_
    refine sl_sld C X (vp_in_nI (by omega) (by omega)) dL_29 ?_
    refine sm_bipush C (v := 127) (by decide) dL_30 ?_
    refine sm_iand C dL_32 ?_
    obtain ⟨k, h128, hk⟩ := key_127 (xs (nI i).toNatClampNeg)
    have hk2 : (xs (nI i).toNatClampNeg &&& 127).toInt = (k : Int) := by rw [hk, nI_toInt (by omega)]
    by_cases h76 : k < 76
    · exact lq_all C X (turn_in hL h6) H next hk2 h76
    · exact sm_tabOut C dL_33 (Or.inr (by omega)) (tgt := 2282) rfl (next w H)
  · refine sm_iconst C (v := 1) (by decide) dL_2288 ?_
    exact sl_ret C X dL_2289
theorem lw_loop {G : Gx} {b L : Nat} {xs : Nat → Int32} (C : Cx G code "SacredHensLaw" 4 15 560) (X : Lx G b L xs) (hL : L ≤ 3072) : ∀ (n i : Nat) (w : HW), Rel w → i ≤ L → L < i + n → Sm G () 18 (LV G b i) [] w (some ()) := by
  intro n
  induction n with
  | zero => intro i w _ h1 h2; omega
  | succ n ih =>
    intro i w H hi hn
    exact lw_turn C X hL H hi (fun h6 w1 H1 => ih (i + 6) w1 H1 h6 (by omega))
theorem lw_S {G : Gx} {b L : Nat} {xs : Nat → Int32} (C : Cx G code "SacredHensLaw" 4 15 560) (X : Lx G b L xs) (hL : L ≤ 3072) (I : Ci G 0) (hm : Gk G = (600000, 7302250)) : Sb G 0 [(0, .ref b)] [] w0 0 0 0 := by
  refine sb_new C I hm fo_9_0 (Cn := "SacredHens") rfl rfl rfl wiA1 wiA2 wiA3 rfl dL_0 ?_
  refine sb_dup C rfl dL_3 ?_
  refine sb_callI C I hm (y := yX9_init) (cy := cX9_init) (ny := 2) (fr' := 2) (lo' := 32) (mc' := 78) (ms' := 9539) (a := 0) (n' := 79) rfl wiA4 rfl wiA5 wiA3 wiA6 ⟨by decide, by decide, by decide +kernel⟩ rfl rfl rfl dL_4 (fun h => b9_0 h) (fun h => f9_0 h) ?_
  refine sb_astore_n C dL_7 rfl rfl rfl ?_
  refine sb_new C I hm fo_10_1 (Cn := "SacredHensModel") rfl rfl rfl wiB1 wiB2 wiB3 rfl dL_8 ?_
  refine sb_dup C rfl dL_11 ?_
  refine sb_callI C I hm (y := yX10_init) (cy := cX10_init) (ny := 1) (fr' := 1) (lo' := 12) (mc' := 22) (ms' := 116929) (a := 79) (n' := 102) rfl wiB4 rfl wiB5 wiB3 wiB6 ⟨by decide, by decide, by decide +kernel⟩ rfl rfl rfl dL_12 (fun h => b10_79 h) (fun h => f10_79 h) ?_
  refine sb_astore_n C dL_15 rfl rfl rfl ?_
  refine sb_sm hm rfl ?_
  refine sm_iconst C (v := 0) (by decide) dL_16 ?_
  refine sm_istore_n (lv1 := LV G b 0) C dL_17 rfl rfl rfl ?_
  exact lw_loop C X hL (L + 1) 0 wF Rel_F (Nat.zero_le _) (by omega)
theorem whole_start {p : Program} {e : Env} {s : State} {m : MethodId} {below : List Frame} {meth : Method} {c : Code} (l : Launch) (hflags : l.flags = flags0) {b L : Nat} {xs : Nat → Int32} (hL : L ≤ 3072) (C0 : lw_At p s m meth c b L xs) : W p l e room_1 s m #[Value.ref b] below meth c s.heap [] 0 0 (lw_Z below #[Value.ref b] s) (entryFrame m ([Value.ref b] : List Value).toArray 4) := by
  obtain ⟨hx, hb, hr, hml, hown, hts, hX, hbl, hlk, hg⟩ := C0
  obtain ⟨D, cA, ad, hE, hV, hAO⟩ := lw_env hg hts
  have hW : ∀ w ∈ hWS, w.before #[Value.ref b] s = true := fun w h => hts w (List.mem_filter.mp h).1
  have hl := lv_entry [Value.ref b] (show (lg_sl [Value.ref b]).length ≤ 4 from Nat.le_of_ble_eq_true rfl)
  have S := lw_S (G := ((l, D, cA, ad, s.heap.size), p, e, room_1, s, m, #[.ref b], below, meth, c, lw_Z below #[Value.ref b] s, 4, 600000, 7302250)) (b := b) (L := L) (xs := xs)
    ⟨hx, hb, hml, hown, hW, hE, hV, hlk, Nat.le_refl _, Nat.le_refl _, Nat.le_refl _, Nat.le_refl _, rfl⟩ ⟨hX, hbl, rfl, rfl, rfl, hr, rfl, rfl, rfl⟩ hL ⟨rfl, hAO⟩ rfl
  rw [lg_entry_eq]
  exact S Fh_w0 s.heap [] _ (fun k q h => by cases h) va_S.rf hl
