/-! READING: the whole tape, and the call camp -/
def rdF (B : Nat → Int32) (t : Nat) : Nat → ZZ → (Nat → Nat) → ZZ × (Nat → Nat)
  | 0, z, K => (z, K)
  | n + 1, z, K => if z.c ≠ 0 ∧ z.f = 0 then rdF B t n (lnZ B t z K) (lnK B t z K) else (z, K)
theorem rdF_s (B : Nat → Int32) (t n : Nat) (z : ZZ) (K : Nat → Nat) : rdF B t (n + 1) z K = if z.c ≠ 0 ∧ z.f = 0 then rdF B t n (lnZ B t z K) (lnK B t z K) else (z, K) := rfl
theorem WF.build {K : Nat → Nat} (b : K 0 ≤ 14 ∧ K 1 ≤ 9 ∧ K 2 ≤ 9 ∧ K 3 ≤ 10 ∧ K 4 ≤ 8 ∧ K 5 ≤ 8 ∧ K 7 ≤ 800 ∧ K 8 < 2 ^ K 0) (h6 : K 6 = 0) (h7 : 0 < K 7) (h1 : 1 ≤ K 0) (h2 : 1 ≤ K 2) (ha : ∀ a, a < K 4 → K (9 + 3 * a) ≤ 1 ∧ K (10 + 3 * a) ≤ K (11 + 3 * a) ∧ K (11 + 3 * a) < K 0) (hb : ∀ b, b < K 5 → K (33 + 3 * b) ≤ 1 ∧ K (34 + 3 * b) ≤ 99 ∧ K (35 + 3 * b) ≤ b) : WF K := by
  obtain ⟨b0, b1, b2, b3, b4, b5, b7, b8⟩ := b
  exact ⟨⟨b0, b1, b2, b3, b4, b5, by omega, b7, b8⟩, fun z => by omega, fun _ => ⟨h1, h2⟩, ha, hb, fun i hi => by omega, fun i j hi => by omega⟩
section MON
variable {B : Nat → Int32} {t : Nat} {z0 z : ZZ} {K : Nat → Nat}
/-- z lies behind z0 -/
def Mo (B : Nat → Int32) (t : Nat) (z0 z : ZZ) : Prop := ZI B t z ∧ z0.e ≤ z.e
theorem zt_e {k p : Nat} (hk : k ≤ t) : k ≤ (zt B t 0 p k).e := by
  have h := tk_b (B := B) hk
  have e : (zt B t 0 p k).e = tkE B t k := rfl
  omega
theorem errZ_e {n : Nat} : (errZ n z).e = z.e := by
  unfold errZ
  split
  · rfl
  · rfl
theorem Mo.word (M : Mo B t z0 z) (ht : t ≤ 800) (q : Nat) : Mo B t z0 (wordZ B t q z) := by
  refine ⟨M.1.word ht q, ?_⟩
  have h := M.2
  have h2 := zt_e (B := B) (p := z.p) M.1.2.2.2.1
  unfold wordZ
  split
  · split
    · omega
    · rw [errZ_e]; exact h
  · exact h
theorem Mo.num (M : Mo B t z0 z) (ht : t ≤ 800) (lo n : Nat) : Mo B t z0 (numZ B t lo n z) := by
  refine ⟨M.1.num ht lo n, ?_⟩
  have h := M.2
  have h2 := zt_e (B := B) (p := z.p) M.1.2.2.2.1
  unfold numZ
  split
  · split
    · split
      · omega
      · rw [errZ_e]; exact h
    · rw [errZ_e]; exact h
  · exact h
theorem Mo.err (M : Mo B t z0 z) (ht : t ≤ 800) {n : Nat} (hn : n ≤ 3) : Mo B t z0 (errZ n z) := ⟨M.1.err ht hn, by rw [errZ_e]; exact M.2⟩
theorem lnA_mo (I : ZI B t z) (ht : t ≤ 800) : Mo B t z (lnA B t z K).1 := by
  have M : Mo B t z z := ⟨I, Nat.le_refl _⟩
  unfold lnA
  by_cases c7 : K 7 = 0
  · rw [if_pos c7]
    exact ((((((((M.word ht 0).word ht 1).num ht 1 15).word ht 2).num ht 0 10).word ht 3).num ht 1 10).word ht 4).num ht 0 11
  rw [if_neg c7]
  by_cases g5 : isz B t 5 z = true
  · rw [if_pos g5]
    exact (M.word ht 5).num ht 0 (K 0)
  rw [if_neg g5]
  by_cases g6 : isz B t 6 z = true
  · rw [if_pos g6]
    by_cases c4 : K 4 = 8
    · rw [if_pos c4]; exact M.err ht (by omega)
    · rw [if_neg c4]
      exact ((((((M.word ht 6).word ht 7).num ht 0 2).word ht 8).num ht 0 (K 0)).word ht 9).num ht (auF B t z K) (K 0)
  rw [if_neg g6]
  by_cases g10 : isz B t 10 z = true
  · rw [if_pos g10]
    by_cases c5 : K 5 = 8
    · rw [if_pos c5]; exact M.err ht (by omega)
    · rw [if_neg c5]
      have M5 : Mo B t z (biZ5 B t z) := ((((M.word ht 10).word ht 7).num ht 0 2).word ht 11).num ht 0 100
      show Mo B t z (biZ B t z K)
      unfold biZ
      split
      · exact (M5.word ht 12).num ht 0 (K 5)
      · exact M5
  · rw [if_neg g10]; exact M.err ht (by omega)
theorem wordZ_ok {q : Nat} (h : (wordZ B t q z).f = 0) : z.f = 0 := by
  by_cases hf : z.f = 0
  · exact hf
  · unfold wordZ at h
    rw [if_neg hf] at h
    exact h
theorem numZ_ok {lo n : Nat} (h : (numZ B t lo n z).f = 0) : z.f = 0 ∧ lo ≤ numV lo n z ∧ numV lo n z < n := by
  unfold numZ at h
  by_cases hf : z.f = 0
  · rw [if_pos hf] at h
    by_cases c : z.c = 2
    · rw [if_pos c] at h
      by_cases g : lo ≤ z.v ∧ z.v < n
      · have e : numV lo n z = z.v := by unfold numV; rw [if_pos ⟨hf, c, g⟩]
        rw [e]
        exact ⟨hf, g⟩
      · rw [if_neg g] at h
        exact absurd h (errZ_f (by omega))
    · rw [if_neg c] at h
      exact absurd h (errZ_f (by omega))
  · rw [if_neg hf] at h
    exact absurd h hf
theorem signZ_ok (h : (signZ B t z).f = 0) : z.f = 0 ∧ signZ B t z = zt B t 0 z.p z.e := by
  unfold signZ at h ⊢
  by_cases hf : z.f = 0
  · rw [if_pos hf] at h ⊢
    by_cases c : z.c = 3
    · rw [if_pos c]
      exact ⟨hf, rfl⟩
    · rw [if_neg c] at h
      exact absurd h (errZ_f (by omega))
  · rw [if_neg hf] at h
    exact absurd h hf
theorem lnK_wf (W : WF K) (h6 : K 6 = 0) (hK : K 7 + 1 ≤ 800) (h : (lnA B t z K).1.f = 0) : WF (lnK B t z K) ∧ lnK B t z K 6 = 0 ∧ lnK B t z K 7 = K 7 + 1 := by
  have hb := W.b
  have k7 : lnK B t z K 7 = K 7 + 1 := by unfold lnK; rw [if_pos rfl]
  have nk : ∀ K1 : Nat → Nat, (lnA B t z K).2 = K1 → ∀ i, i ≠ 7 → lnK B t z K i = K1 i := fun K1 e i q => by
    unfold lnK
    rw [if_neg q, e]
  by_cases c7 : K 7 = 0
  · have eA : lnA B t z K = (frZ B t z, frK B t z K) := by unfold lnA; rw [if_pos c7]
    have n := nk (frK B t z K) (by rw [eA])
    rw [eA] at h
    obtain ⟨h8, o1, o2⟩ := numZ_ok (show (numZ B t 0 11 (frZ8 B t z)).f = 0 from h)
    obtain ⟨h6', g1, g2⟩ := numZ_ok (wordZ_ok (show (wordZ B t 4 (numZ B t 1 10 (frZ6 B t z))).f = 0 from h8))
    obtain ⟨h4', u1, u2⟩ := numZ_ok (wordZ_ok (show (wordZ B t 3 (numZ B t 0 10 (frZ4 B t z))).f = 0 from h6'))
    obtain ⟨_, d1, d2⟩ := numZ_ok (wordZ_ok (show (wordZ B t 2 (numZ B t 1 15 (frZ2 B t z))).f = 0 from h4'))
    obtain ⟨z0, z1, z2, z3, z4, z5, z6⟩ := W.2.1 c7
    have hm := W.mk
    rw [z0] at hm
    have e0 : lnK B t z K 0 = numV 1 15 (frZ2 B t z) := by rw [n 0 (by omega)]; rfl
    have e1 : lnK B t z K 1 = numV 0 10 (frZ4 B t z) := by rw [n 1 (by omega)]; rfl
    have e2 : lnK B t z K 2 = numV 1 10 (frZ6 B t z) := by rw [n 2 (by omega)]; rfl
    have e3 : lnK B t z K 3 = numV 0 11 (frZ8 B t z) := by rw [n 3 (by omega)]; rfl
    have e4 : lnK B t z K 4 = 0 := by rw [n 4 (by omega), frK_hi (by omega)]; exact z4
    have e5 : lnK B t z K 5 = 0 := by rw [n 5 (by omega), frK_hi (by omega)]; exact z5
    have e6 : lnK B t z K 6 = 0 := by rw [n 6 (by omega), frK_hi (by omega)]; exact h6
    have e8 : lnK B t z K 8 = 0 := by rw [n 8 (by omega), frK_hi (by omega)]; omega
    have p8' : 0 < 2 ^ lnK B t z K 0 := Nat.two_pow_pos _
    exact ⟨WF.build ⟨by omega, by omega, by omega, by omega, by omega, by omega, by omega, by omega⟩ e6 (by omega) (by omega) (by omega) (fun a ha => by omega) (fun b hb => by omega), e6, k7⟩
  have hp := W.2.2.1 (by omega)
  by_cases g5 : isz B t 5 z = true
  · have eA : lnA B t z K = (maZ B t z K, maK B t z K) := by unfold lnA; rw [if_neg c7, if_pos g5]
    have n := nk (maK B t z K) (by rw [eA])
    have n' : ∀ i, i ≠ 7 → i ≠ 8 → lnK B t z K i = K i := fun i q1 q2 => by rw [n i q1, maK_ne q2]
    rw [eA] at h
    obtain ⟨_, d1, d2⟩ := numZ_ok (show (numZ B t 0 (K 0) (wordZ B t 5 z)).f = 0 from h)
    have e8 : lnK B t z K 8 = K 8 ||| 2 ^ numV 0 (K 0) (wordZ B t 5 z) := by rw [n 8 (by omega)]; unfold maK; rw [if_pos rfl]
    have l8 : K 8 ||| 2 ^ numV 0 (K 0) (wordZ B t 5 z) < 2 ^ K 0 := or_lt W.mk (Nat.pow_lt_pow_right (by omega) d2)
    refine ⟨WF.build ⟨?_, ?_, ?_, ?_, ?_, ?_, ?_, ?_⟩ ?_ ?_ ?_ ?_ (fun a ha => ?_) (fun b hb => ?_), ?_, k7⟩
    · rw [n' _ (by omega) (by omega)]; omega
    · rw [n' _ (by omega) (by omega)]; omega
    · rw [n' _ (by omega) (by omega)]; omega
    · rw [n' _ (by omega) (by omega)]; omega
    · rw [n' _ (by omega) (by omega)]; omega
    · rw [n' _ (by omega) (by omega)]; omega
    · omega
    · rw [e8, n' _ (by omega) (by omega)]; exact l8
    · rw [n' _ (by omega) (by omega)]; exact h6
    · omega
    · rw [n' _ (by omega) (by omega)]; exact hp.1
    · rw [n' _ (by omega) (by omega)]; exact hp.2
    · rw [n' _ (by omega) (by omega)] at ha
      rw [n' _ (by omega) (by omega), n' _ (by omega) (by omega), n' _ (by omega) (by omega), n' _ (by omega) (by omega)]
      exact W.aug ha
    · rw [n' _ (by omega) (by omega)] at hb
      rw [n' _ (by omega) (by omega), n' _ (by omega) (by omega), n' _ (by omega) (by omega)]
      exact W.bil hb
    · rw [n' _ (by omega) (by omega)]; exact h6
  by_cases g6 : isz B t 6 z = true
  · by_cases c4 : K 4 = 8
    · have eA : lnA B t z K = (errZ 3 z, K) := by unfold lnA; rw [if_neg c7, if_neg g5, if_pos g6, if_pos c4]
      rw [eA] at h
      exact absurd h (errZ_f (by omega))
    · have eA : lnA B t z K = (auZ B t z K, auK B t z K) := by unfold lnA; rw [if_neg c7, if_neg g5, if_pos g6, if_neg c4]
      have n := nk (auK B t z K) (by rw [eA])
      rw [eA] at h
      have n' : ∀ i, i ≠ 7 → i ≠ 4 → (i < 9 + 3 * K 4 ∨ 33 ≤ i) → lnK B t z K i = K i := fun i q1 q2 q3 => by
        rw [n i q1]
        unfold auK
        rw [if_neg (by omega), if_neg (by omega), if_neg (by omega), if_neg q2]
      obtain ⟨ha6, l1, l2⟩ := numZ_ok (show (numZ B t (auF B t z K) (K 0) (auZ6 B t z K)).f = 0 from h)
      obtain ⟨ha4, f1, f2⟩ := numZ_ok (wordZ_ok (show (wordZ B t 9 (numZ B t 0 (K 0) (auZ4 B t z))).f = 0 from ha6))
      obtain ⟨_, s1, s2⟩ := numZ_ok (wordZ_ok (show (wordZ B t 8 (numZ B t 0 2 (auZ2 B t z))).f = 0 from ha4))
      have e4 : lnK B t z K 4 = K 4 + 1 := by
        rw [n 4 (by omega)]
        unfold auK
        rw [if_neg (by omega), if_neg (by omega), if_neg (by omega), if_pos rfl]
      have e9 : lnK B t z K (9 + 3 * K 4) = numV 0 2 (auZ2 B t z) := by rw [n _ (by omega)]; unfold auK; rw [if_pos rfl]
      have e10 : lnK B t z K (10 + 3 * K 4) = auF B t z K := by rw [n _ (by omega)]; unfold auK; rw [if_neg (by omega), if_pos rfl]
      have e11 : lnK B t z K (11 + 3 * K 4) = numV (auF B t z K) (K 0) (auZ6 B t z K) := by rw [n _ (by omega)]; unfold auK; rw [if_neg (by omega), if_neg (by omega), if_pos rfl]
      have e0 := n' 0 (by omega) (by omega) (by omega)
      refine ⟨WF.build ⟨?_, ?_, ?_, ?_, ?_, ?_, ?_, ?_⟩ ?_ ?_ ?_ ?_ (fun a ha => ?_) (fun b hb => ?_), ?_, k7⟩
      · rw [e0]; omega
      · rw [n' _ (by omega) (by omega) (by omega)]; omega
      · rw [n' _ (by omega) (by omega) (by omega)]; omega
      · rw [n' _ (by omega) (by omega) (by omega)]; omega
      · rw [e4]; omega
      · rw [n' _ (by omega) (by omega) (by omega)]; omega
      · omega
      · rw [e0, n' _ (by omega) (by omega) (by omega)]; exact W.mk
      · rw [n' _ (by omega) (by omega) (by omega)]; exact h6
      · omega
      · rw [e0]; exact hp.1
      · rw [n' _ (by omega) (by omega) (by omega)]; exact hp.2
      · rw [e4] at ha
        by_cases q : a = K 4
        · subst q
          rw [e9, e10, e11, e0]
          exact ⟨by omega, l1, l2⟩
        · have := W.aug (show a < K 4 by omega)
          rw [n' _ (by omega) (by omega) (by omega), n' _ (by omega) (by omega) (by omega), n' _ (by omega) (by omega) (by omega), e0]
          exact this
      · rw [n' _ (by omega) (by omega) (by omega)] at hb
        rw [n' _ (by omega) (by omega) (by omega), n' _ (by omega) (by omega) (by omega), n' _ (by omega) (by omega) (by omega)]
        exact W.bil hb
      · rw [n' _ (by omega) (by omega) (by omega)]; exact h6
  by_cases g10 : isz B t 10 z = true
  · by_cases c5 : K 5 = 8
    · have eA : lnA B t z K = (errZ 3 z, K) := by unfold lnA; rw [if_neg c7, if_neg g5, if_neg g6, if_pos g10, if_pos c5]
      rw [eA] at h
      exact absurd h (errZ_f (by omega))
    · have eA : lnA B t z K = (biZ B t z K, biK B t z K) := by unfold lnA; rw [if_neg c7, if_neg g5, if_neg g6, if_pos g10, if_neg c5]
      have n := nk (biK B t z K) (by rw [eA])
      rw [eA] at h
      have n' : ∀ i, i ≠ 7 → i ≠ 5 → (i < 33 + 3 * K 5 ∨ 57 ≤ i) → lnK B t z K i = K i := fun i q1 q2 q3 => by
        rw [n i q1]
        unfold biK
        rw [if_neg (by omega), if_neg (by omega), if_neg (by omega), if_neg q2]
      have hA : (biZ5 B t z).f = 0 ∧ biA B t z K ≤ K 5 := by
        have h' : (biZ B t z K).f = 0 := h
        unfold biZ at h'
        unfold biA
        by_cases g : (biZ5 B t z).f = 0 ∧ isz B t 12 (biZ5 B t z) = true
        · rw [if_pos g] at h' ⊢
          have := (numZ_ok h').2.2
          exact ⟨g.1, by omega⟩
        · rw [if_neg g] at h' ⊢
          exact ⟨h', Nat.zero_le _⟩
      obtain ⟨ha4, f1, f2⟩ := numZ_ok (show (numZ B t 0 100 (biZ4 B t z)).f = 0 from hA.1)
      obtain ⟨_, s1, s2⟩ := numZ_ok (wordZ_ok (show (wordZ B t 11 (numZ B t 0 2 (biZ2 B t z))).f = 0 from ha4))
      have e5 : lnK B t z K 5 = K 5 + 1 := by
        rw [n 5 (by omega)]
        unfold biK
        rw [if_neg (by omega), if_neg (by omega), if_neg (by omega), if_pos rfl]
      have e9 : lnK B t z K (33 + 3 * K 5) = numV 0 2 (biZ2 B t z) := by rw [n _ (by omega)]; unfold biK; rw [if_pos rfl]
      have e10 : lnK B t z K (34 + 3 * K 5) = numV 0 100 (biZ4 B t z) := by rw [n _ (by omega)]; unfold biK; rw [if_neg (by omega), if_pos rfl]
      have e11 : lnK B t z K (35 + 3 * K 5) = biA B t z K := by rw [n _ (by omega)]; unfold biK; rw [if_neg (by omega), if_neg (by omega), if_pos rfl]
      have e0 := n' 0 (by omega) (by omega) (by omega)
      refine ⟨WF.build ⟨?_, ?_, ?_, ?_, ?_, ?_, ?_, ?_⟩ ?_ ?_ ?_ ?_ (fun a ha => ?_) (fun b hb => ?_), ?_, k7⟩
      · rw [e0]; omega
      · rw [n' _ (by omega) (by omega) (by omega)]; omega
      · rw [n' _ (by omega) (by omega) (by omega)]; omega
      · rw [n' _ (by omega) (by omega) (by omega)]; omega
      · rw [n' _ (by omega) (by omega) (by omega)]; omega
      · rw [e5]; omega
      · omega
      · rw [e0, n' _ (by omega) (by omega) (by omega)]; exact W.mk
      · rw [n' _ (by omega) (by omega) (by omega)]; exact h6
      · omega
      · rw [e0]; exact hp.1
      · rw [n' _ (by omega) (by omega) (by omega)]; exact hp.2
      · rw [n' _ (by omega) (by omega) (by omega)] at ha
        rw [n' _ (by omega) (by omega) (by omega), n' _ (by omega) (by omega) (by omega), n' _ (by omega) (by omega) (by omega), e0]
        exact W.aug ha
      · rw [e5] at hb
        by_cases q : b = K 5
        · subst q
          rw [e9, e10, e11]
          exact ⟨by omega, by omega, hA.2⟩
        · have := W.bil (show b < K 5 by omega)
          rw [n' _ (by omega) (by omega) (by omega), n' _ (by omega) (by omega) (by omega), n' _ (by omega) (by omega) (by omega)]
          exact this
      · rw [n' _ (by omega) (by omega) (by omega)]; exact h6
  · have eA : lnA B t z K = (errZ 1 z, K) := by unfold lnA; rw [if_neg c7, if_neg g5, if_neg g6, if_neg g10]
    rw [eA] at h
    exact absurd h (errZ_f (by omega))
/-- between lines -/
def JJ (B : Nat → Int32) (t i : Nat) (z : ZZ) (K : Nat → Nat) : Prop := ZI B t z ∧ (z.f = 0 → WF K ∧ K 6 = 0 ∧ K 7 = i ∧ (z.c ≠ 0 → i + 1 ≤ z.e))
theorem JJ.line {i : Nat} (J : JJ B t i z K) (ht : t ≤ 800) (hf : z.f = 0) (hc : z.c ≠ 0) : JJ B t (i + 1) (lnZ B t z K) (lnK B t z K) := by
  obtain ⟨I, h⟩ := J
  obtain ⟨W, h6, h7, he⟩ := h hf
  have he := he hc
  have M := lnA_mo (K := K) I ht
  have I4 := I.2.2.2.1
  refine ⟨M.1.sign ht, fun h => ?_⟩
  obtain ⟨h1, h2⟩ := signZ_ok (show (signZ B t (lnA B t z K).1).f = 0 from h)
  obtain ⟨W', w6, w7⟩ := lnK_wf (B := B) (t := t) (z := z) W h6 (by omega) h1
  refine ⟨W', w6, by omega, fun hc' => ?_⟩
  have e : lnZ B t z K = zt B t 0 (lnA B t z K).1.p (lnA B t z K).1.e := h2
  rw [e] at hc' ⊢
  have hb := tk_b (B := B) (k := (lnA B t z K).1.e) M.1.2.2.2.1
  have c1 : tkC B t (lnA B t z K).1.e ≠ 0 := hc'
  have e1 : (zt B t 0 (lnA B t z K).1.p (lnA B t z K).1.e).e = tkE B t (lnA B t z K).1.e := rfl
  have := hb.2.2.2.2.2.1 c1
  have := M.2
  omega
end MON
