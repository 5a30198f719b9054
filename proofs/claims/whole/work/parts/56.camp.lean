/-! READING: the whole tape, and the call camp -/
def rdF (B : Nat → Int32) (t : Nat) : Nat → ZZ → (Nat → Nat) → ZZ × (Nat → Nat)
  | 0, z, K => (z, K)
  | n + 1, z, K => if z.c ≠ 0 ∧ z.f = 0 then rdF B t n (lnZ B t z K) (lnK B t z K) else (z, K)
theorem rdF_s (B : Nat → Int32) (t n : Nat) (z : ZZ) (K : Nat → Nat) : rdF B t (n + 1) z K = if z.c ≠ 0 ∧ z.f = 0 then rdF B t n (lnZ B t z K) (lnK B t z K) else (z, K) := rfl
theorem WF.build {K : Nat → Nat} (b : K 0 ≤ 14 ∧ K 1 ≤ 9 ∧ K 2 ≤ 9 ∧ K 3 ≤ 10 ∧ K 4 ≤ 8 ∧ K 5 ≤ 8 ∧ K 7 ≤ 800 ∧ K 8 < 2 ^ K 0) (h6 : K 6 = 0) (h7 : 0 < K 7) (h1 : 1 ≤ K 0) (h2 : 1 ≤ K 2) (ha : ∀ a, a < K 4 → K (9 + 3 * a) ≤ 1 ∧ K (10 + 3 * a) ≤ K (11 + 3 * a) ∧ K (11 + 3 * a) < K 0) (hb : ∀ b, b < K 5 → K (33 + 3 * b) ≤ 1 ∧ K (34 + 3 * b) ≤ 99 ∧ K (35 + 3 * b) ≤ b) : WF K := by
  obtain ⟨b0, b1, b2, b3, b4, b5, b7, b8⟩ := b
  exact ⟨⟨b0, b1, b2, b3, b4, b5, by omega, b7, b8⟩, fun z => by omega, fun _ => ⟨h1, h2⟩, ha, hb, fun i hi => by omega, fun i j hi => by omega⟩
section MON
variable {B : Nat → Int32} {t : Nat} {z0 z : ZZ} {K : Nat → Nat}
/-- z lies behind z0 -/
def Mo (B : Nat → Int32) (t : Nat) (z0 z : ZZ) : Prop := ZI B t z ∧ z0.e ≤ z.e
theorem zt_e {k p : Nat} (hk : k ≤ t) : k ≤ (zt B t 0 p k).e := by
  have h := tk_b (B := B) hk
  have e : (zt B t 0 p k).e = tkE B t k := rfl
  omega
theorem errZ_e {n : Nat} : (errZ n z).e = z.e := by
  unfold errZ
  split
  · rfl
  · rfl
theorem Mo.word (M : Mo B t z0 z) (ht : t ≤ 800) (q : Nat) : Mo B t z0 (wordZ B t q z) := by
  refine ⟨M.1.word ht q, ?_⟩
  have h := M.2
  have h2 := zt_e (B := B) (p := z.p) M.1.2.2.2.1
  unfold wordZ
  split
  · split
    · omega
    · rw [errZ_e]; exact h
  · exact h
theorem Mo.num (M : Mo B t z0 z) (ht : t ≤ 800) (lo n : Nat) : Mo B t z0 (numZ B t lo n z) := by
  refine ⟨M.1.num ht lo n, ?_⟩
  have h := M.2
  have h2 := zt_e (B := B) (p := z.p) M.1.2.2.2.1
  unfold numZ
  split
  · split
    · split
      · omega
      · rw [errZ_e]; exact h
    · rw [errZ_e]; exact h
  · exact h
theorem Mo.err (M : Mo B t z0 z) (ht : t ≤ 800) {n : Nat} (hn : n ≤ 3) : Mo B t z0 (errZ n z) := ⟨M.1.err ht hn, by rw [errZ_e]; exact M.2⟩
theorem lnA_mo (I : ZI B t z) (ht : t ≤ 800) : Mo B t z (lnA B t z K).1 := by
  have M : Mo B t z z := ⟨I, Nat.le_refl _⟩
  unfold lnA
  by_cases c7 : K 7 = 0
  · rw [if_pos c7]
    exact ((((((((M.word ht 0).word ht 1).num ht 1 15).word ht 2).num ht 0 10).word ht 3).num ht 1 10).word ht 4).num ht 0 11
  rw [if_neg c7]
  by_cases g5 : isz B t 5 z = true
  · rw [if_pos g5]
    exact (M.word ht 5).num ht 0 (K 0)
  rw [if_neg g5]
  by_cases g6 : isz B t 6 z = true
  · rw [if_pos g6]
    by_cases c4 : K 4 = 8
    · rw [if_pos c4]; exact M.err ht (by omega)
    · rw [if_neg c4]
      exact ((((((M.word ht 6).word ht 7).num ht 0 2).word ht 8).num ht 0 (K 0)).word ht 9).num ht (auF B t z K) (K 0)
  rw [if_neg g6]
  by_cases g10 : isz B t 10 z = true
  · rw [if_pos g10]
    by_cases c5 : K 5 = 8
    · rw [if_pos c5]; exact M.err ht (by omega)
    · rw [if_neg c5]
      have M5 : Mo B t z (biZ5 B t z) := ((((M.word ht 10).word ht 7).num ht 0 2).word ht 11).num ht 0 100
      show Mo B t z (biZ B t z K)
      unfold biZ
      split
      · exact (M5.word ht 12).num ht 0 (K 5)
      · exact M5
  · rw [if_neg g10]; exact M.err ht (by omega)
theorem wordZ_ok {q : Nat} (h : (wordZ B t q z).f = 0) : z.f = 0 := by
  by_cases hf : z.f = 0
  · exact hf
  · unfold wordZ at h
    rw [if_neg hf] at h
    exact h
theorem numZ_ok {lo n : Nat} (h : (numZ B t lo n z).f = 0) : z.f = 0 ∧ lo ≤ numV lo n z ∧ numV lo n z < n := by
  unfold numZ at h
  by_cases hf : z.f = 0
  · rw [if_pos hf] at h
    by_cases c : z.c = 2
    · rw [if_pos c] at h
      by_cases g : lo ≤ z.v ∧ z.v < n
      · have e : numV lo n z = z.v := by unfold numV; rw [if_pos ⟨hf, c, g⟩]
        rw [e]
        exact ⟨hf, g⟩
      · rw [if_neg g] at h
        exact absurd h (errZ_f (by omega))
    · rw [if_neg c] at h
      exact absurd h (errZ_f (by omega))
  · rw [if_neg hf] at h
    exact absurd h hf
theorem signZ_ok (h : (signZ B t z).f = 0) : z.f = 0 ∧ signZ B t z = zt B t 0 z.p z.e := by
  unfold signZ at h ⊢
  by_cases hf : z.f = 0
  · rw [if_pos hf] at h ⊢
    by_cases c : z.c = 3
    · rw [if_pos c]
      exact ⟨hf, rfl⟩
    · rw [if_neg c] at h
      exact absurd h (errZ_f (by omega))
  · rw [if_neg hf] at h
    exact absurd h hf
theorem lnK_wf (W : WF K) (h6 : K 6 = 0) (hK : K 7 + 1 ≤ 800) (h : (lnA B t z K).1.f = 0) : WF (lnK B t z K) ∧ lnK B t z K 6 = 0 ∧ lnK B t z K 7 = K 7 + 1 := by
  have hb := W.b
  have k7 : lnK B t z K 7 = K 7 + 1 := by unfold lnK; rw [if_pos rfl]
  have nk : ∀ K1 : Nat → Nat, (lnA B t z K).2 = K1 → ∀ i, i ≠ 7 → lnK B t z K i = K1 i := fun K1 e i q => by
    unfold lnK
    rw [if_neg q, e]
  by_cases c7 : K 7 = 0
  · have eA : lnA B t z K = (frZ B t z, frK B t z K) := by unfold lnA; rw [if_pos c7]
    have n := nk (frK B t z K) (by rw [eA])
    rw [eA] at h
    obtain ⟨h8, o1, o2⟩ := numZ_ok (show (numZ B t 0 11 (frZ8 B t z)).f = 0 from h)
    obtain ⟨h6', g1, g2⟩ := numZ_ok (wordZ_ok (show (wordZ B t 4 (numZ B t 1 10 (frZ6 B t z))).f = 0 from h8))
    obtain ⟨h4', u1, u2⟩ := numZ_ok (wordZ_ok (show (wordZ B t 3 (numZ B t 0 10 (frZ4 B t z))).f = 0 from h6'))
    obtain ⟨_, d1, d2⟩ := numZ_ok (wordZ_ok (show (wordZ B t 2 (numZ B t 1 15 (frZ2 B t z))).f = 0 from h4'))
    obtain ⟨z0, z1, z2, z3, z4, z5, z6⟩ := W.2.1 c7
    have hm := W.mk
    rw [z0] at hm
    have e0 : lnK B t z K 0 = numV 1 15 (frZ2 B t z) := by rw [n 0 (by omega)]; rfl
    have e1 : lnK B t z K 1 = numV 0 10 (frZ4 B t z) := by rw [n 1 (by omega)]; rfl
    have e2 : lnK B t z K 2 = numV 1 10 (frZ6 B t z) := by rw [n 2 (by omega)]; rfl
    have e3 : lnK B t z K 3 = numV 0 11 (frZ8 B t z) := by rw [n 3 (by omega)]; rfl
    have e4 : lnK B t z K 4 = 0 := by rw [n 4 (by omega), frK_hi (by omega)]; exact z4
    have e5 : lnK B t z K 5 = 0 := by rw [n 5 (by omega), frK_hi (by omega)]; exact z5
    have e6 : lnK B t z K 6 = 0 := by rw [n 6 (by omega), frK_hi (by omega)]; exact h6
    have e8 : lnK B t z K 8 = 0 := by rw [n 8 (by omega), frK_hi (by omega)]; omega
    have p8' : 0 < 2 ^ lnK B t z K 0 := Nat.two_pow_pos _
    exact ⟨WF.build ⟨by omega, by omega, by omega, by omega, by omega, by omega, by omega, by omega⟩ e6 (by omega) (by omega) (by omega) (fun a ha => by omega) (fun b hb => by omega), e6, k7⟩
  have hp := W.2.2.1 (by omega)
  by_cases g5 : isz B t 5 z = true
  · have eA : lnA B t z K = (maZ B t z K, maK B t z K) := by unfold lnA; rw [if_neg c7, if_pos g5]
    have n := nk (maK B t z K) (by rw [eA])
    have n' : ∀ i, i ≠ 7 → i ≠ 8 → lnK B t z K i = K i := fun i q1 q2 => by rw [n i q1, maK_ne q2]
    rw [eA] at h
    obtain ⟨_, d1, d2⟩ := numZ_ok (show (numZ B t 0 (K 0) (wordZ B t 5 z)).f = 0 from h)
    have e8 : lnK B t z K 8 = K 8 ||| 2 ^ numV 0 (K 0) (wordZ B t 5 z) := by rw [n 8 (by omega)]; unfold maK; rw [if_pos rfl]
    have l8 : K 8 ||| 2 ^ numV 0 (K 0) (wordZ B t 5 z) < 2 ^ K 0 := or_lt W.mk (Nat.pow_lt_pow_right (by omega) d2)
    refine ⟨WF.build ⟨?_, ?_, ?_, ?_, ?_, ?_, ?_, ?_⟩ ?_ ?_ ?_ ?_ (fun a ha => ?_) (fun b hb => ?_), ?_, k7⟩
    · rw [n' _ (by omega) (by omega)]; omega
    · rw [n' _ (by omega) (by omega)]; omega
    · rw [n' _ (by omega) (by omega)]; omega
    · rw [n' _ (by omega) (by omega)]; omega
    · rw [n' _ (by omega) (by omega)]; omega
    · rw [n' _ (by omega) (by omega)]; omega
    · omega
    · rw [e8, n' _ (by omega) (by omega)]; exact l8
    · rw [n' _ (by omega) (by omega)]; exact h6
    · omega
    · rw [n' _ (by omega) (by omega)]; exact hp.1
    · rw [n' _ (by omega) (by omega)]; exact hp.2
    · rw [n' _ (by omega) (by omega)] at ha
      rw [n' _ (by omega) (by omega), n' _ (by omega) (by omega), n' _ (by omega) (by omega), n' _ (by omega) (by omega)]
      exact W.aug ha
    · rw [n' _ (by omega) (by omega)] at hb
      rw [n' _ (by omega) (by omega), n' _ (by omega) (by omega), n' _ (by omega) (by omega)]
      exact W.bil hb
    · rw [n' _ (by omega) (by omega)]; exact h6
  by_cases g6 : isz B t 6 z = true
  · by_cases c4 : K 4 = 8
    · have eA : lnA B t z K = (errZ 3 z, K) := by unfold lnA; rw [if_neg c7, if_neg g5, if_pos g6, if_pos c4]
      rw [eA] at h
      exact absurd h (errZ_f (by omega))
    · have eA : lnA B t z K = (auZ B t z K, auK B t z K) := by unfold lnA; rw [if_neg c7, if_neg g5, if_pos g6, if_neg c4]
      have n := nk (auK B t z K) (by rw [eA])
      rw [eA] at h
      have n' : ∀ i, i ≠ 7 → i ≠ 4 → (i < 9 + 3 * K 4 ∨ 33 ≤ i) → lnK B t z K i = K i := fun i q1 q2 q3 => by
        rw [n i q1]
        unfold auK
        rw [if_neg (by omega), if_neg (by omega), if_neg (by omega), if_neg q2]
      obtain ⟨ha6, l1, l2⟩ := numZ_ok (show (numZ B t (auF B t z K) (K 0) (auZ6 B t z K)).f = 0 from h)
      obtain ⟨ha4, f1, f2⟩ := numZ_ok (wordZ_ok (show (wordZ B t 9 (numZ B t 0 (K 0) (auZ4 B t z))).f = 0 from ha6))
      obtain ⟨_, s1, s2⟩ := numZ_ok (wordZ_ok (show (wordZ B t 8 (numZ B t 0 2 (auZ2 B t z))).f = 0 from ha4))
      have e4 : lnK B t z K 4 = K 4 + 1 := by
        rw [n 4 (by omega)]
        unfold auK
        rw [if_neg (by omega), if_neg (by omega), if_neg (by omega), if_pos rfl]
      have e9 : lnK B t z K (9 + 3 * K 4) = numV 0 2 (auZ2 B t z) := by rw [n _ (by omega)]; unfold auK; rw [if_pos rfl]
      have e10 : lnK B t z K (10 + 3 * K 4) = auF B t z K := by rw [n _ (by omega)]; unfold auK; rw [if_neg (by omega), if_pos rfl]
      have e11 : lnK B t z K (11 + 3 * K 4) = numV (auF B t z K) (K 0) (auZ6 B t z K) := by rw [n _ (by omega)]; unfold auK; rw [if_neg (by omega), if_neg (by omega), if_pos rfl]
      have e0 := n' 0 (by omega) (by omega) (by omega)
      refine ⟨WF.build ⟨?_, ?_, ?_, ?_, ?_, ?_, ?_, ?_⟩ ?_ ?_ ?_ ?_ (fun a ha => ?_) (fun b hb => ?_), ?_, k7⟩
      · rw [e0]; omega
      · rw [n' _ (by omega) (by omega) (by omega)]; omega
      · rw [n' _ (by omega) (by omega) (by omega)]; omega
      · rw [n' _ (by omega) (by omega) (by omega)]; omega
      · rw [e4]; omega
      · rw [n' _ (by omega) (by omega) (by omega)]; omega
      · omega
      · rw [e0, n' _ (by omega) (by omega) (by omega)]; exact W.mk
      · rw [n' _ (by omega) (by omega) (by omega)]; exact h6
      · omega
      · rw [e0]; exact hp.1
      · rw [n' _ (by omega) (by omega) (by omega)]; exact hp.2
      · rw [e4] at ha
        by_cases q : a = K 4
        · subst q
          rw [e9, e10, e11, e0]
          exact ⟨by omega, l1, l2⟩
        · have := W.aug (show a < K 4 by omega)
          rw [n' _ (by omega) (by omega) (by omega), n' _ (by omega) (by omega) (by omega), n' _ (by omega) (by omega) (by omega), e0]
          exact this
      · rw [n' _ (by omega) (by omega) (by omega)] at hb
        rw [n' _ (by omega) (by omega) (by omega), n' _ (by omega) (by omega) (by omega), n' _ (by omega) (by omega) (by omega)]
        exact W.bil hb
      · rw [n' _ (by omega) (by omega) (by omega)]; exact h6
  by_cases g10 : isz B t 10 z = true
  · by_cases c5 : K 5 = 8
    · have eA : lnA B t z K = (errZ 3 z, K) := by unfold lnA; rw [if_neg c7, if_neg g5, if_neg g6, if_pos g10, if_pos c5]
      rw [eA] at h
      exact absurd h (errZ_f (by omega))
    · have eA : lnA B t z K = (biZ B t z K, biK B t z K) := by unfold lnA; rw [if_neg c7, if_neg g5, if_neg g6, if_pos g10, if_neg c5]
      have n := nk (biK B t z K) (by rw [eA])
      rw [eA] at h
      have n' : ∀ i, i ≠ 7 → i ≠ 5 → (i < 33 + 3 * K 5 ∨ 57 ≤ i) → lnK B t z K i = K i := fun i q1 q2 q3 => by
        rw [n i q1]
        unfold biK
        rw [if_neg (by omega), if_neg (by omega), if_neg (by omega), if_neg q2]
      have hA : (biZ5 B t z).f = 0 ∧ biA B t z K ≤ K 5 := by
        have h' : (biZ B t z K).f = 0 := h
        unfold biZ at h'
        unfold biA
        by_cases g : (biZ5 B t z).f = 0 ∧ isz B t 12 (biZ5 B t z) = true
        · rw [if_pos g] at h' ⊢
          have := (numZ_ok h').2.2
          exact ⟨g.1, by omega⟩
        · rw [if_neg g] at h' ⊢
          exact ⟨h', Nat.zero_le _⟩
      obtain ⟨ha4, f1, f2⟩ := numZ_ok (show (numZ B t 0 100 (biZ4 B t z)).f = 0 from hA.1)
      obtain ⟨_, s1, s2⟩ := numZ_ok (wordZ_ok (show (wordZ B t 11 (numZ B t 0 2 (biZ2 B t z))).f = 0 from ha4))
      have e5 : lnK B t z K 5 = K 5 + 1 := by
        rw [n 5 (by omega)]
        unfold biK
        rw [if_neg (by omega), if_neg (by omega), if_neg (by omega), if_pos rfl]
      have e9 : lnK B t z K (33 + 3 * K 5) = numV 0 2 (biZ2 B t z) := by rw [n _ (by omega)]; unfold biK; rw [if_pos rfl]
      have e10 : lnK B t z K (34 + 3 * K 5) = numV 0 100 (biZ4 B t z) := by rw [n _ (by omega)]; unfold biK; rw [if_neg (by omega), if_pos rfl]
      have e11 : lnK B t z K (35 + 3 * K 5) = biA B t z K := by rw [n _ (by omega)]; unfold biK; rw [if_neg (by omega), if_neg (by omega), if_pos rfl]
      have e0 := n' 0 (by omega) (by omega) (by omega)
      refine ⟨WF.build ⟨?_, ?_, ?_, ?_, ?_, ?_, ?_, ?_⟩ ?_ ?_ ?_ ?_ (fun a ha => ?_) (fun b hb => ?_), ?_, k7⟩
      · rw [e0]; omega
      · rw [n' _ (by omega) (by omega) (by omega)]; omega
      · rw [n' _ (by omega) (by omega) (by omega)]; omega
      · rw [n' _ (by omega) (by omega) (by omega)]; omega
      · rw [n' _ (by omega) (by omega) (by omega)]; omega
      · rw [e5]; omega
      · omega
      · rw [e0, n' _ (by omega) (by omega) (by omega)]; exact W.mk
      · rw [n' _ (by omega) (by omega) (by omega)]; exact h6
      · omega
      · rw [e0]; exact hp.1
      · rw [n' _ (by omega) (by omega) (by omega)]; exact hp.2
      · rw [n' _ (by omega) (by omega) (by omega)] at ha
        rw [n' _ (by omega) (by omega) (by omega), n' _ (by omega) (by omega) (by omega), n' _ (by omega) (by omega) (by omega), e0]
        exact W.aug ha
      · rw [e5] at hb
        by_cases q : b = K 5
        · subst q
          rw [e9, e10, e11]
          exact ⟨by omega, by omega, hA.2⟩
        · have := W.bil (show b < K 5 by omega)
          rw [n' _ (by omega) (by omega) (by omega), n' _ (by omega) (by omega) (by omega), n' _ (by omega) (by omega) (by omega)]
          exact this
      · rw [n' _ (by omega) (by omega) (by omega)]; exact h6
  · have eA : lnA B t z K = (errZ 1 z, K) := by unfold lnA; rw [if_neg c7, if_neg g5, if_neg g6, if_neg g10]
    rw [eA] at h
    exact absurd h (errZ_f (by omega))
/-- between lines -/
def JJ (B : Nat → Int32) (t i : Nat) (z : ZZ) (K : Nat → Nat) : Prop := ZI B t z ∧ (z.f = 0 → WF K ∧ K 6 = 0 ∧ K 7 = i ∧ (z.c ≠ 0 → i + 1 ≤ z.e))
theorem JJ.line {i : Nat} (J : JJ B t i z K) (ht : t ≤ 800) (hf : z.f = 0) (hc : z.c ≠ 0) : JJ B t (i + 1) (lnZ B t z K) (lnK B t z K) := by
  obtain ⟨I, h⟩ := J
  obtain ⟨W, h6, h7, he⟩ := h hf
  have he := he hc
  have M := lnA_mo (K := K) I ht
  have I4 := I.2.2.2.1
  refine ⟨M.1.sign ht, fun h => ?_⟩
  obtain ⟨h1, h2⟩ := signZ_ok (show (signZ B t (lnA B t z K).1).f = 0 from h)
  obtain ⟨W', w6, w7⟩ := lnK_wf (B := B) (t := t) (z := z) W h6 (by omega) h1
  refine ⟨W', w6, by omega, fun hc' => ?_⟩
  have e : lnZ B t z K = zt B t 0 (lnA B t z K).1.p (lnA B t z K).1.e := h2
  rw [e] at hc' ⊢
  have hb := tk_b (B := B) (k := (lnA B t z K).1.e) M.1.2.2.2.1
  have c1 : tkC B t (lnA B t z K).1.e ≠ 0 := hc'
  have e1 : (zt B t 0 (lnA B t z K).1.p (lnA B t z K).1.e).e = tkE B t (lnA B t z K).1.e := rfl
  have := hb.2.2.2.2.2.1 c1
  have := M.2
  omega
end MON
section RDX
variable {B : Nat → Int32} {t k : Nat}
theorem readX_L (ht : t ≤ 800) (hk : 26 ≤ k) : ∀ F i (w : HW) (z : ZZ) (K : Nat → Nat), i ≤ 800 → 800 - i < F → CR B t k w z → JJ B t i z K → (z.f = 0 → CC w k K) → ∃ w', fX4_read_38 F w (nI i) = some (b01 (decide ((rdF B t (800 - i) z K).1.f = 0)), w') ∧ CR B t k w' (rdF B t (800 - i) z K).1 ∧ Sk k w w' ∧ ((rdF B t (800 - i) z K).1.f = 0 → CC w' k (rdF B t (800 - i) z K).2) := by
  intro F
  induction F with
  | zero => intro i w z K h1 h2; omega
  | succ F ih =>
    intro i w z K h1 h2 C J HC
    have hc4 := C.2.1.2.2.2.2.1
    have stop : rdF B t (800 - i) z K = (z, K) → ∃ w', (if gI w 3 0 = 0 then some ((1 : Int32), w) else some (0, w)) = some (b01 (decide ((rdF B t (800 - i) z K).1.f = 0)), w') ∧ CR B t k w' (rdF B t (800 - i) z K).1 ∧ Sk k w w' ∧ ((rdF B t (800 - i) z K).1.f = 0 → CC w' k (rdF B t (800 - i) z K).2) := by
      intro e
      rw [e, if_f0 C]
      refine ⟨w, ?_, C, Sk.of Sx.rf, HC⟩
      by_cases hf : z.f = 0
      · rw [if_pos hf, decide_eq_true hf]; rfl
      · rw [if_neg hf, decide_eq_false hf]; rfl
    rw [fX4_read_38]
    by_cases hi : i < 800
    · obtain ⟨n, hn⟩ : ∃ n, 800 - i = n + 1 := ⟨800 - i - 1, by omega⟩
      rw [if_pos (show nI i < 800 from nI_lt (b := 800) hi (by omega)), C.2.2.2.2.1]
      by_cases hc : z.c = 0
      · rw [if_neg (show ¬ ¬ nI z.c = 0 from fun y => y (congrArg nI hc))]
        exact stop (by rw [hn, rdF_s, if_neg (fun y => y.1 hc)])
      · rw [if_pos (show ¬ nI z.c = 0 from fun y => hc ((nI_eqv (b := 0) (by omega) (by omega)).mp y)), if_f0 C]
        by_cases hf : z.f = 0
        · obtain ⟨W, h6, h7, he⟩ := J.2 hf
          obtain ⟨w1, q1, q2, q3, q4⟩ := readLineX_ok ht hk W h6 C hf (HC hf)
          obtain ⟨w2, r1, r2, r3, r4⟩ := ih (i + 1) w1 (lnZ B t z K) (lnK B t z K) (by omega) (by omega) q2 (J.line ht hf hc) q4
          rw [if_pos hf, q1, bI_some, nI_1, r1, hn, rdF_s, if_pos ⟨hc, hf⟩, show 800 - (i + 1) = n by omega]
          rw [show 800 - (i + 1) = n by omega] at r2 r4
          exact ⟨w2, rfl, r2, q3.tr r3, r4⟩
        · rw [if_neg hf]
          exact stop (by rw [hn, rdF_s, if_neg (fun y => hf y.2)])
    · rw [if_neg (show ¬ nI i < 800 from nI_nlt (b := 800) (by omega) (by omega))]
      exact stop (by rw [show 800 - i = 0 by omega]; rfl)
theorem camp86_L (w0 : HW) : ∀ F i (w : HW), i ≤ 77 → 77 - i < F → (∀ j, j < i → gI w 80 j = gI w0 85 j) → (∀ c f, c ≠ 80 → gI w c f = gI w0 c f) → ∃ w', fX10_camp_86 F w (nI i) = some (gI w' 80 7, w') ∧ (∀ j, j < 77 → gI w' 80 j = gI w0 85 j) ∧ (∀ c f, c ≠ 80 → gI w' c f = gI w0 c f) ∧ (∀ c f, gL w' c f = gL w c f ∧ gR w' c f = gR w c f) := by
  intro F
  induction F with
  | zero => intro i w h1 h2; omega
  | succ F ih =>
    intro i w h1 h2 h3 h4
    rw [fX10_camp_86]
    by_cases hi : i < 77
    · have hin : inB (nI i) 77 = true := inB_nI hi (by omega)
      rw [if_pos (show nI i < 77 from nI_lt (b := 77) hi (by omega)), if_pos hin, if_pos hin, ix_nI (by omega), lT_eq, nI_1]
      obtain ⟨w', q1, q2, q3, q4⟩ := ih (i + 1) (uI w 80 i (gI w 85 i)) (by omega) (by omega) (fun j hj => by
        by_cases e : j = i
        · subst e; rw [gI_uI_at, h4 _ _ (by omega)]
        · rw [gI_uI_nf e]; exact h3 j (by omega)) (fun c f hc => by rw [gI_uI_ne hc]; exact h4 c f hc)
      exact ⟨w', q1, q2, q3, fun c f => ⟨(q4 c f).1.trans rfl, (q4 c f).2.trans rfl⟩⟩
    · rw [if_neg (show ¬ nI i < 77 from nI_nlt (b := 77) (by omega) (by omega)), if_pos (show inB 7 77 = true from rfl), ix_7]
      exact ⟨w, rfl, fun j hj => h3 j (by omega), h4, fun _ _ => ⟨rfl, rfl⟩⟩
theorem readM_L (ht : t ≤ 800) : ∀ F i (w : HW) (z : ZZ) (K : Nat → Nat), i ≤ 800 → 800 - i + 1 < F → MR B t w z → JJ B t i z K → RCg (gI w 85) K → ∃ w', fX10_camp_53 F w = (if (rdF B t (800 - i) z K).1.f = 0 then fX10_camp_86 FU w' 0 else some (-4, w')) ∧ MR B t w' (rdF B t (800 - i) z K).1 ∧ Sgm w w' ∧ RCg (gI w' 85) (rdF B t (800 - i) z K).2 ∧ ((rdF B t (800 - i) z K).1.f = 0 → WF (rdF B t (800 - i) z K).2) := by
  intro F
  induction F with
  | zero => intro i w z K h1 h2; omega
  | succ F ih =>
    intro i w z K h1 h2 C J R
    have hc4 := C.2.1.2.2.2.2.1
    have hI4 := C.2.1.2.2.2.1
    have stop : rdF B t (800 - i) z K = (z, K) → ∃ w', (bI (some (b01 (decide (z.f = 0)))) fun r_17 => if r_17 = 0 then some ((-4 : Int32), w) else fX10_camp_86 FU w 0) = (if (rdF B t (800 - i) z K).1.f = 0 then fX10_camp_86 FU w' 0 else some (-4, w')) ∧ MR B t w' (rdF B t (800 - i) z K).1 ∧ Sgm w w' ∧ RCg (gI w' 85) (rdF B t (800 - i) z K).2 ∧ ((rdF B t (800 - i) z K).1.f = 0 → WF (rdF B t (800 - i) z K).2) := by
      intro e
      rw [e, bI_some, if_b01', ite_dec]
      exact ⟨w, rfl, C, Sgm.of Sx.rf, R, fun y => (J.2 y).1⟩
    rw [fX10_camp_53, C.good, bI_some, if_b01, ite_dec]
    by_cases hf : z.f = 0
    · obtain ⟨W, h6, h7, he⟩ := J.2 hf
      rw [if_pos hf, C.2.2.2.2.1]
      by_cases hc : z.c = 0
      · rw [if_neg (show ¬ ¬ nI z.c = 0 from fun y => y (congrArg nI hc))]
        refine stop ?_
        cases e : 800 - i with
        | zero => rfl
        | succ n => rw [rdF_s, if_neg (fun y => y.1 hc)]
      · have he := he hc
        obtain ⟨n, hn⟩ : ∃ n, 800 - i = n + 1 := ⟨800 - i - 1, by omega⟩
        obtain ⟨w1, q1, q2, q3, q4⟩ := readLineM_ok ht W h6 C hf R
        obtain ⟨w2, r1, r2, r3, r4, r5⟩ := ih (i + 1) w1 (lnZ B t z K) (lnK B t z K) (by omega) (by omega) q2 (J.line ht hf hc) q4
        rw [if_pos (show ¬ nI z.c = 0 from fun y => hc ((nI_eqv (b := 0) (by omega) (by omega)).mp y)), q1, bI_some, r1, hn, rdF_s, if_pos ⟨hc, hf⟩, show 800 - (i + 1) = n by omega]
        rw [show 800 - (i + 1) = n by omega] at r2 r4 r5
        exact ⟨w2, rfl, r2, q3.tr r3, r4, r5⟩
    · rw [if_neg hf]
      refine stop ?_
      cases e : 800 - i with
      | zero => rfl
      | succ n => rw [rdF_s, if_neg (fun y => hf y.2)]
theorem camp30_L (ht : t ≤ 800) : ∀ F i (w : HW), i ≤ 77 → 77 - i < F → ME B t w → gI w 79 8 = 0 → gI w 79 12 = 0 → gI w 79 13 = -1 → (∀ j, j < i → gI w 85 j = 0) → ∃ w', fX10_camp_30 F w (nI i) = fX10_camp_53 FU w' ∧ MR B t w' (zt B t 0 0 0) ∧ Sgm w w' ∧ RCg (gI w' 85) (fun _ => 0) := by
  intro F
  induction F with
  | zero => intro i w h1 h2; omega
  | succ F ih =>
    intro i w h1 h2 E h8 h12 h13 h3
    rw [fX10_camp_30]
    by_cases hi : i < 77
    · rw [if_pos (show nI i < 77 from nI_lt (b := 77) hi (by omega)), if_pos (inB_nI hi (by omega)), ix_nI (by omega), lT_eq, nI_1]
      obtain ⟨w', q1, q2, q3, q4⟩ := ih (i + 1) (uI w 85 i 0) (by omega) (by omega) ⟨by rw [gI_uI_ne (by omega)]; exact E.1, fun j hj => by rw [gI_uI_ne (by omega)]; exact E.2.1 j hj, E.2.2⟩ (by rw [gI_uI_ne (by omega)]; exact h8) (by rw [gI_uI_ne (by omega)]; exact h12) (by rw [gI_uI_ne (by omega)]; exact h13) (fun j hj => by
        by_cases e : j = i
        · subst e; exact gI_uI_at
        · rw [gI_uI_nf e]; exact h3 j (by omega))
      exact ⟨w', q1, q2, ((Sgm.of Sx.rf).put).tr q3, q4⟩
    · obtain ⟨w', q1, q2, q3, q4, q5, q6⟩ := advance_ok E ht (i := 0) h8 (Nat.zero_le _)
      have q6' := q6.mono p98
      rw [if_neg (show ¬ nI i < 77 from nI_nlt (b := 77) (by omega) (by omega)), q1, bI_some]
      refine ⟨w', rfl, ⟨E.of q6', ZI.mk0 (by omega) (by omega) (Nat.zero_le _), (q6 79 12 rfl).1.trans h12, (q6 79 13 rfl).1.trans h13, q2, q3, q4, q5⟩, Sgm.of q6', ⟨?_, fun a ha => by omega, fun b hb => by omega, fun i hi => by omega⟩⟩
      refine ⟨?_, ?_, ?_, ?_, ?_, ?_, ?_, ?_, ?_⟩ <;> (rw [s85 q6', h3 _ (by omega)]; rfl)
theorem WF_0 : WF (fun _ => 0) := ⟨⟨by omega, by omega, by omega, by omega, by omega, by omega, by omega, by omega, by decide⟩, fun _ => ⟨rfl, rfl, rfl, rfl, rfl, rfl, rfl⟩, fun h => by omega, fun a ha => by omega, fun b hb => by omega, fun i hi => by omega, fun i j hi => by omega⟩
theorem JJ_0 : JJ B t 0 (zt B t 0 0 0) (fun _ => 0) := by
  refine ⟨ZI.mk0 (by omega) (by omega) (Nat.zero_le _), fun _ => ⟨WF_0, rfl, rfl, fun hc => ?_⟩⟩
  have hb := tk_b (B := B) (t := t) (k := 0) (Nat.zero_le _)
  have c1 : tkC B t 0 ≠ 0 := hc
  have := hb.2.2.2.2.2.1 c1
  show 0 + 1 ≤ tkE B t 0
  omega
end RDX
