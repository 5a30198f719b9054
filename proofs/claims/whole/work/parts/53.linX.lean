/-! READING: the lines, by the class -/
def frZ2 (B : Nat → Int32) (t : Nat) (z : ZZ) : ZZ := wordZ B t 1 (wordZ B t 0 z)
def frZ4 (B : Nat → Int32) (t : Nat) (z : ZZ) : ZZ := wordZ B t 2 (numZ B t 1 15 (frZ2 B t z))
def frZ6 (B : Nat → Int32) (t : Nat) (z : ZZ) : ZZ := wordZ B t 3 (numZ B t 0 10 (frZ4 B t z))
def frZ8 (B : Nat → Int32) (t : Nat) (z : ZZ) : ZZ := wordZ B t 4 (numZ B t 1 10 (frZ6 B t z))
def frZ (B : Nat → Int32) (t : Nat) (z : ZZ) : ZZ := numZ B t 0 11 (frZ8 B t z)
def frK (B : Nat → Int32) (t : Nat) (z : ZZ) (K : Nat → Nat) : Nat → Nat := fun i => if i = 0 then numV 1 15 (frZ2 B t z) else if i = 1 then numV 0 10 (frZ4 B t z) else if i = 2 then numV 1 10 (frZ6 B t z) else if i = 3 then numV 0 11 (frZ8 B t z) else K i
def maZ (B : Nat → Int32) (t : Nat) (z : ZZ) (K : Nat → Nat) : ZZ := numZ B t 0 (K 0) (wordZ B t 5 z)
def maK (B : Nat → Int32) (t : Nat) (z : ZZ) (K : Nat → Nat) : Nat → Nat := fun i => if i = 8 then K 8 ||| 2 ^ numV 0 (K 0) (wordZ B t 5 z) else K i
def auZ2 (B : Nat → Int32) (t : Nat) (z : ZZ) : ZZ := wordZ B t 7 (wordZ B t 6 z)
def auZ4 (B : Nat → Int32) (t : Nat) (z : ZZ) : ZZ := wordZ B t 8 (numZ B t 0 2 (auZ2 B t z))
def auF (B : Nat → Int32) (t : Nat) (z : ZZ) (K : Nat → Nat) : Nat := numV 0 (K 0) (auZ4 B t z)
def auZ6 (B : Nat → Int32) (t : Nat) (z : ZZ) (K : Nat → Nat) : ZZ := wordZ B t 9 (numZ B t 0 (K 0) (auZ4 B t z))
def auZ (B : Nat → Int32) (t : Nat) (z : ZZ) (K : Nat → Nat) : ZZ := numZ B t (auF B t z K) (K 0) (auZ6 B t z K)
def auK (B : Nat → Int32) (t : Nat) (z : ZZ) (K : Nat → Nat) : Nat → Nat := fun i => if i = 9 + 3 * K 4 then numV 0 2 (auZ2 B t z) else if i = 10 + 3 * K 4 then auF B t z K else if i = 11 + 3 * K 4 then numV (auF B t z K) (K 0) (auZ6 B t z K) else if i = 4 then K 4 + 1 else K i
def biZ2 (B : Nat → Int32) (t : Nat) (z : ZZ) : ZZ := wordZ B t 7 (wordZ B t 10 z)
def biZ4 (B : Nat → Int32) (t : Nat) (z : ZZ) : ZZ := wordZ B t 11 (numZ B t 0 2 (biZ2 B t z))
def biZ5 (B : Nat → Int32) (t : Nat) (z : ZZ) : ZZ := numZ B t 0 100 (biZ4 B t z)
def biZ (B : Nat → Int32) (t : Nat) (z : ZZ) (K : Nat → Nat) : ZZ := if (biZ5 B t z).f = 0 ∧ isz B t 12 (biZ5 B t z) = true then numZ B t 0 (K 5) (wordZ B t 12 (biZ5 B t z)) else biZ5 B t z
def biA (B : Nat → Int32) (t : Nat) (z : ZZ) (K : Nat → Nat) : Nat := if (biZ5 B t z).f = 0 ∧ isz B t 12 (biZ5 B t z) = true then numV 0 (K 5) (wordZ B t 12 (biZ5 B t z)) + 1 else 0
def biK (B : Nat → Int32) (t : Nat) (z : ZZ) (K : Nat → Nat) : Nat → Nat := fun i => if i = 33 + 3 * K 5 then numV 0 2 (biZ2 B t z) else if i = 34 + 3 * K 5 then numV 0 100 (biZ4 B t z) else if i = 35 + 3 * K 5 then biA B t z K else if i = 5 then K 5 + 1 else K i
def lnA (B : Nat → Int32) (t : Nat) (z : ZZ) (K : Nat → Nat) : ZZ × (Nat → Nat) :=
  if K 7 = 0 then (frZ B t z, frK B t z K) else if isz B t 5 z = true then (maZ B t z K, maK B t z K) else if isz B t 6 z = true then (if K 4 = 8 then (errZ 3 z, K) else (auZ B t z K, auK B t z K)) else if isz B t 10 z = true then (if K 5 = 8 then (errZ 3 z, K) else (biZ B t z K, biK B t z K)) else (errZ 1 z, K)
def lnZ (B : Nat → Int32) (t : Nat) (z : ZZ) (K : Nat → Nat) : ZZ := signZ B t (lnA B t z K).1
def lnK (B : Nat → Int32) (t : Nat) (z : ZZ) (K : Nat → Nat) : Nat → Nat := fun i => if i = 7 then K 7 + 1 else (lnA B t z K).2 i
theorem frK_hi {B : Nat → Int32} {t : Nat} {z : ZZ} {K : Nat → Nat} {i : Nat} (q : 4 ≤ i) : frK B t z K i = K i := by
  unfold frK
  rw [if_neg (by omega), if_neg (by omega), if_neg (by omega), if_neg (by omega)]
theorem maK_ne {B : Nat → Int32} {t : Nat} {z : ZZ} {K : Nat → Nat} {i : Nat} (q : i ≠ 8) : maK B t z K i = K i := by
  unfold maK
  rw [if_neg q]
theorem numV_le {lo n : Nat} {z : ZZ} : numV lo n z ≤ n := by
  unfold numV
  split
  · next h => have := h.2.2.2; omega
  · omega
/-- the reader's numbers and the camp at k alone differ -/
def Sk (k : Nat) (w w' : HW) : Prop := ∀ c f, p3 c f = false → (c < k ∨ k + 8 < c) → gI w' c f = gI w c f ∧ gL w' c f = gL w c f ∧ gR w' c f = gR w c f
theorem p3_ne {c f : Nat} (h : c ≠ 3) : p3 c f = false := by
  unfold p3
  rw [show (c == 3) = false by simpa using h, Bool.false_and]
section LNX
variable {B : Nat → Int32} {t k : Nat} {w : HW} {z : ZZ} {K : Nat → Nat}
theorem Sk.tr {w' w2 : HW} (h : Sk k w w') (h2 : Sk k w' w2) : Sk k w w2 := fun c f a b => ⟨(h2 c f a b).1.trans (h c f a b).1, (h2 c f a b).2.1.trans (h c f a b).2.1, (h2 c f a b).2.2.trans (h c f a b).2.2⟩
theorem Sk.of {w' : HW} (h : Sx p3 w w') : Sk k w w' := fun c f a _ => h c f a
theorem Sk.put {w' : HW} (h : Sk k w w') {c f : Nat} {v : Int32} (h1 : k ≤ c) (h2 : c ≤ k + 8) : Sk k w (uI w' c f v) := fun a b q1 q2 => by
  obtain ⟨x, y, z⟩ := h a b q1 q2
  rw [gI_uI_ne (by omega), gL_uI, gR_uI]
  exact ⟨x, y, z⟩
theorem CE.put (E : CE B t k w) (hk : 26 ≤ k) {c f : Nat} {v : Int32} (h1 : k ≤ c) : CE B t k (uI w c f v) := by
  obtain ⟨a, b, c, d, e⟩ := E
  refine ⟨a, by rw [gR_uI]; exact b, by rw [gR_uI]; exact c, by rw [gI_uI_ne (by omega)]; exact d, fun i hi => by rw [gI_uI_ne (by omega)]; exact e i hi⟩
theorem CR.put (C : CR B t k w z) (hk : 26 ≤ k) {c f : Nat} {v : Int32} (h1 : k ≤ c) : CR B t k (uI w c f v) z := by
  obtain ⟨E, I, a, b, c, d, e, g⟩ := C
  refine ⟨E.put hk h1, I, ?_, ?_, ?_, ?_, ?_, ?_⟩ <;> rw [gI_uI_ne (by omega)] <;> assumption
theorem CC.p3 (HC : CC w k K) (hk : 26 ≤ k) {w' : HW} (h : Sx p3 w w') : CC w' k K := HC.of (fun c a _ f => (h c f (p3_ne (by omega))).1)
theorem if_f0 {α : Type} (C : CR B t k w z) (X Y : α) : (if gI w 3 0 = 0 then X else Y) = if z.f = 0 then X else Y := by
  have hI := C.2.1.1
  rw [C.2.2.1]
  by_cases h : z.f = 0
  · rw [if_pos (show nI z.f = 0 from congrArg nI h), if_pos h]
  · rw [if_neg (show ¬ nI z.f = 0 from fun y => h ((nI_eqv (b := 0) (by omega) (by omega)).mp y)), if_neg h]
theorem readCamp_ok (ht : t ≤ 800) (hk : 26 ≤ k) (C : CR B t k w z) (HC : CC w k K) : ∃ w', fX4_readCamp w = some w' ∧ CR B t k w' (frZ B t z) ∧ Sk k w w' ∧ ((frZ B t z).f = 0 → CC w' k (frK B t z K)) := by
  obtain ⟨w1, a1, c1, s1⟩ := C.word ht (q := 0) (by omega)
  obtain ⟨w2, a2, c2, s2⟩ := c1.word ht (q := 1) (by omega)
  obtain ⟨w3, a3, c3, s3⟩ := c2.num ht (lo := 1) (n := 15) (by omega) (by omega)
  obtain ⟨w4, a4, c4, s4⟩ := c3.word ht (q := 2) (by omega)
  obtain ⟨w5, a5, c5, s5⟩ := c4.num ht (lo := 0) (n := 10) (by omega) (by omega)
  obtain ⟨w6, a6, c6, s6⟩ := c5.word ht (q := 3) (by omega)
  obtain ⟨w7, a7, c7, s7⟩ := c6.num ht (lo := 1) (n := 10) (by omega) (by omega)
  obtain ⟨w8, a8, c8, s8⟩ := c7.word ht (q := 4) (by omega)
  obtain ⟨w9, a9, c9, s9⟩ := c8.num ht (lo := 0) (n := 11) (by omega) (by omega)
  have S := (((((((s1.tr s2).tr s3).tr s4).tr s5).tr s6).tr s7).tr s8).tr s9
  have c9' : CR B t k w9 (frZ B t z) := c9
  have HC9 := HC.p3 hk S
  unfold fX4_readCamp
  rw [a1, bI_some, a2, bI_some, show fX4_takeNumber w2 1 14 = _ from a3, bW_some, a4, bI_some, show fX4_takeNumber w4 0 9 = _ from a5, bW_some, a6, bI_some, show fX4_takeNumber w6 1 9 = _ from a7, bW_some, a8, bI_some, show fX4_takeNumber w8 0 10 = _ from a9, bW_some, if_f0 c9']
  by_cases hf : (frZ B t z).f = 0
  · have hR := c9.1.2.2.1
    have hi := c9.1.1
    rw [if_pos hf]
    simp only [lT_eq, gR_uI, hR, hi, ↓reduceIte]
    refine ⟨_, rfl, (((c9'.put hk (by omega)).put hk (by omega)).put hk (by omega)).put hk (by omega), ((((Sk.of S).put (by omega) (by omega)).put (by omega) (by omega)).put (by omega) (by omega)).put (by omega) (by omega), fun _ => ?_⟩
    obtain ⟨h0, ⟨f0, f1, f2, f3, f4, f5, f6, f10, f14⟩, hA, hB, hX⟩ := HC9
    have e : ∀ i, 4 ≤ i → frK B t z K i = K i := fun i q => by
      unfold frK
      rw [if_neg (by omega), if_neg (by omega), if_neg (by omega), if_neg (by omega)]
    refine ⟨h0, ⟨?_, ?_, ?_, ?_, ?_, ?_, ?_, ?_, ?_⟩, fun a ha => ?_, fun b hb => ?_, fun i hi => ?_⟩
    all_goals simp (disch := omega) only [gI_uI_at, gI_uI_nf, gI_uI_ne]
    · exact f0
    · rfl
    · rfl
    · rfl
    · rfl
    · exact f5
    · exact f6
    · exact f10
    · exact f14
    · rw [e _ (by omega), e _ (by omega), e _ (by omega)]; exact hA a ha
    · rw [e _ (by omega), e _ (by omega), e _ (by omega)]; exact hB b hb
    · rw [e _ (by omega)]; exact hX i hi
  · rw [if_neg hf]
    exact ⟨w9, rfl, c9', Sk.of S, fun y => absurd y hf⟩
theorem readMark_ok (ht : t ≤ 800) (hk : 26 ≤ k) (W : WF K) (C : CR B t k w z) (HC : CC w k K) : ∃ w', fX4_readMark w = some w' ∧ CR B t k w' (maZ B t z K) ∧ Sk k w w' ∧ ((maZ B t z K).f = 0 → CC w' k (maK B t z K)) := by
  have hb := W.b
  obtain ⟨w1, a1, c1, s1⟩ := C.word ht (q := 5) (by omega)
  obtain ⟨w2, a2, c2, s2⟩ := c1.num ht (lo := 0) (n := K 0) (by omega) (by omega)
  have S := s1.tr s2
  have c2' : CR B t k w2 (maZ B t z K) := c2
  have HC1 := HC.p3 hk s1
  have HC2 := HC.p3 hk S
  have hn : numV 0 (K 0) (wordZ B t 5 z) ≤ K 0 := numV_le
  unfold fX4_readMark
  rw [a1, bI_some, c1.1.cmp, HC1.c1, aI_pred (by omega), show fX4_takeNumber w1 0 (aI (K 0)) = _ from a2, bW_some, if_f0 c2']
  by_cases hf : (maZ B t z K).f = 0
  · rw [if_pos hf, c2.1.cmp, HC2.c5, iSl_1 (by omega), nI_or, lT_eq]
    refine ⟨_, rfl, c2'.put hk (by omega), (Sk.of S).put (by omega) (by omega), fun _ => ?_⟩
    obtain ⟨h0, ⟨f0, f1, f2, f3, f4, f5, f6, f10, f14⟩, hA, hB, hX⟩ := HC2
    refine ⟨h0, ⟨?_, ?_, ?_, ?_, ?_, ?_, ?_, ?_, ?_⟩, fun a ha => ?_, fun b hb => ?_, fun i hi => ?_⟩
    all_goals simp (disch := omega) only [gI_uI_at, gI_uI_nf, gI_uI_ne]
    · exact f0
    · exact f1
    · exact f2
    · exact f3
    · exact f4
    · rfl
    · exact f6
    · exact f10
    · exact f14
    · have := hA a ha
      unfold maK
      rw [if_neg (by omega), if_neg (by omega), if_neg (by omega)]
      exact this
    · have := hB b hb
      unfold maK
      rw [if_neg (by omega), if_neg (by omega), if_neg (by omega)]
      exact this
    · have := hX i hi
      unfold maK
      rw [if_neg (by omega)]
      exact this
  · rw [if_neg hf]
    exact ⟨w2, rfl, c2', Sk.of S, fun y => absurd y hf⟩
theorem readAugurX_ok (ht : t ≤ 800) (hk : 26 ≤ k) (W : WF K) (h6 : K 6 = 0) (C : CR B t k w z) (HC : CC w k K) (h4 : K 4 < 8) : ∃ w', fX4_readAugur w = some w' ∧ CR B t k w' (auZ B t z K) ∧ Sk k w w' ∧ ((auZ B t z K).f = 0 → CC w' k (auK B t z K)) := by
  have hb := W.b
  have hF : auF B t z K ≤ K 0 := numV_le
  obtain ⟨w1, a1, c1, s1⟩ := C.word ht (q := 6) (by omega)
  obtain ⟨w2, a2, c2, s2⟩ := c1.word ht (q := 7) (by omega)
  obtain ⟨w3, a3, c3, s3⟩ := c2.num ht (lo := 0) (n := 2) (by omega) (by omega)
  obtain ⟨w4, a4, c4, s4⟩ := c3.word ht (q := 8) (by omega)
  obtain ⟨w5, a5, c5, s5⟩ := c4.num ht (lo := 0) (n := K 0) (by omega) (by omega)
  obtain ⟨w6, a6, c6, s6⟩ := c5.word ht (q := 9) (by omega)
  obtain ⟨w7, a7, c7, s7⟩ := c6.num ht (lo := auF B t z K) (n := K 0) (by omega) (by omega)
  have S4 := ((s1.tr s2).tr s3).tr s4
  have S6 := (S4.tr s5).tr s6
  have S := S6.tr s7
  have c7' : CR B t k w7 (auZ B t z K) := c7
  have HC4 := HC.p3 hk S4
  have HC6 := HC.p3 hk S6
  have HC7 := HC.p3 hk S
  unfold fX4_readAugur
  rw [C.1.cmp, HC.c6, if_neg (show ¬ ¬ nI (K 4) < 8 from fun y => y (nI_lt (b := 8) h4 (by omega))), a1, bI_some, a2, bI_some, show fX4_takeNumber w2 0 1 = _ from a3, bW_some, a4, bI_some, c4.1.cmp, HC4.c1, aI_pred (by omega), show fX4_takeNumber w4 0 (aI (K 0)) = _ from a5, bW_some, a6, bI_some, c6.1.cmp, HC6.c1, aI_pred (by omega), show fX4_takeNumber w6 (nI (numV 0 (K 0) (wordZ B t 8 (numZ B t 0 2 (wordZ B t 7 (wordZ B t 6 z)))))) (aI (K 0)) = _ from a7, bW_some, if_f0 c7']
  by_cases hf : (auZ B t z K).f = 0
  · have hR := c7.1.2.2.1
    have hi := c7.1.1
    have g6 := HC7.c6
    have hin : inB (nI (K 4)) 8 = true := inB_nI h4 (by omega)
    have hix : ix (nI (K 4)) = K 4 := ix_nI (by omega)
    have n1 : k ≠ k + 1 := by omega
    have n2 : k ≠ k + 2 := by omega
    have n3 : k ≠ k + 3 := by omega
    rw [if_pos hf]
    simp only [lT_eq, gR_uI, hR, hi, ↓reduceIte, gI_uI_ne n1, gI_uI_ne n2, gI_uI_ne n3, g6, hin, hix, nI_1]
    refine ⟨_, rfl, (((c7'.put hk (by omega)).put hk (by omega)).put hk (by omega)).put hk (by omega), ((((Sk.of S).put (by omega) (by omega)).put (by omega) (by omega)).put (by omega) (by omega)).put (by omega) (by omega), fun _ => ?_⟩
    obtain ⟨h0, ⟨f0, f1, f2, f3, f4, f5, f6, f10, f14⟩, hA, hB, hX⟩ := HC7
    have e : ∀ i, i ≠ 4 → (i < 9 ∨ 33 ≤ i) → auK B t z K i = K i := fun i q1 q2 => by
      unfold auK
      rw [if_neg (by omega), if_neg (by omega), if_neg (by omega), if_neg q1]
    have e4 : auK B t z K 4 = K 4 + 1 := by
      unfold auK
      rw [if_neg (by omega), if_neg (by omega), if_neg (by omega), if_pos rfl]
    refine ⟨h0, ⟨?_, ?_, ?_, ?_, ?_, ?_, ?_, ?_, ?_⟩, fun a ha => ?_, fun b hb => ?_, fun i hi => ?_⟩
    · rw [e 7 (by omega) (by omega)]; simp (disch := omega) only [gI_uI_nf, gI_uI_ne]; exact f0
    · rw [e 0 (by omega) (by omega)]; simp (disch := omega) only [gI_uI_nf, gI_uI_ne]; exact f1
    · rw [e 1 (by omega) (by omega)]; simp (disch := omega) only [gI_uI_nf, gI_uI_ne]; exact f2
    · rw [e 2 (by omega) (by omega)]; simp (disch := omega) only [gI_uI_nf, gI_uI_ne]; exact f3
    · rw [e 3 (by omega) (by omega)]; simp (disch := omega) only [gI_uI_nf, gI_uI_ne]; exact f4
    · rw [e 8 (by omega) (by omega)]; simp (disch := omega) only [gI_uI_nf, gI_uI_ne]; exact f5
    · rw [e4, gI_uI_at]
    · rw [e 5 (by omega) (by omega)]; simp (disch := omega) only [gI_uI_nf, gI_uI_ne]; exact f10
    · rw [e 6 (by omega) (by omega)]; simp (disch := omega) only [gI_uI_nf, gI_uI_ne]; exact f14
    · rw [e4] at ha
      by_cases q : a = K 4
      · subst q
        have e9 : auK B t z K (9 + 3 * K 4) = numV 0 2 (auZ2 B t z) := by unfold auK; rw [if_pos rfl]
        have e10 : auK B t z K (10 + 3 * K 4) = auF B t z K := by unfold auK; rw [if_neg (by omega), if_pos rfl]
        have e11 : auK B t z K (11 + 3 * K 4) = numV (auF B t z K) (K 0) (auZ6 B t z K) := by unfold auK; rw [if_neg (by omega), if_neg (by omega), if_pos rfl]
        rw [e9, e10, e11]
        simp (disch := omega) only [gI_uI_at, gI_uI_nf, gI_uI_ne]
        exact ⟨rfl, rfl, rfl⟩
      · have hA' := hA a (by omega)
        have e' : ∀ j, 9 ≤ j → j ≤ 11 → auK B t z K (j + 3 * a) = K (j + 3 * a) := fun j p1 p2 => by
          unfold auK
          rw [if_neg (by omega), if_neg (by omega), if_neg (by omega), if_neg (by omega)]
        rw [e' 9 (by omega) (by omega), e' 10 (by omega) (by omega), e' 11 (by omega) (by omega)]
        simp (disch := omega) only [gI_uI_nf, gI_uI_ne]
        exact hA'
    · have hB' := hB b (by rw [e 5 (by omega) (by omega)] at hb; exact hb)
      rw [e (33 + 3 * b) (by omega) (by omega), e (34 + 3 * b) (by omega) (by omega), e (35 + 3 * b) (by omega) (by omega)]
      simp (disch := omega) only [gI_uI_nf, gI_uI_ne]
      exact hB'
    · rw [e 6 (by omega) (by omega)] at hi; omega
  · rw [if_neg hf]
    exact ⟨w7, rfl, c7', Sk.of S, fun y => absurd y hf⟩
theorem bill83_ok (ht : t ≤ 800) (hk : 26 ≤ k) (W : WF K) (h6 : K 6 = 0) (C : CR B t k w z) (HC : CC w k K) (h5 : K 5 < 8) {v1 v2 v3 : Nat} (K' : Nat → Nat) (hK' : K' = fun i => if i = 33 + 3 * K 5 then v1 else if i = 34 + 3 * K 5 then v2 else if i = 35 + 3 * K 5 then v3 else if i = 5 then K 5 + 1 else K i) : ∃ w', fX4_readBill_83 w (nI v1) (nI v2) (aI v3) = some w' ∧ CR B t k w' z ∧ Sk k w w' ∧ (z.f = 0 → CC w' k K') := by
  have hb := W.b
  unfold fX4_readBill_83
  rw [if_f0 C]
  by_cases hf : z.f = 0
  · have hR := C.1.2.2.1
    have hi := C.1.1
    have g10 := HC.c10
    have hin : inB (nI (K 5)) 8 = true := inB_nI h5 (by omega)
    have hix : ix (nI (K 5)) = K 5 := ix_nI (by omega)
    have n1 : k ≠ k + 4 := by omega
    have n2 : k ≠ k + 5 := by omega
    have n3 : k ≠ k + 6 := by omega
    rw [if_pos hf]
    simp only [lT_eq, gR_uI, hR, hi, ↓reduceIte, gI_uI_ne n1, gI_uI_ne n2, gI_uI_ne n3, g10, hin, hix, nI_1]
    refine ⟨_, rfl, (((C.put hk (by omega)).put hk (by omega)).put hk (by omega)).put hk (by omega), ((((Sk.of Sx.rf).put (by omega) (by omega)).put (by omega) (by omega)).put (by omega) (by omega)).put (by omega) (by omega), fun _ => ?_⟩
    obtain ⟨h0, ⟨f0, f1, f2, f3, f4, f5, f6, f10, f14⟩, hA, hB, hX⟩ := HC
    have e : ∀ i, i ≠ 5 → (i < 33 ∨ 57 ≤ i) → K' i = K i := fun i q1 q2 => by
      rw [hK']
      show (if i = 33 + 3 * K 5 then v1 else _) = _
      rw [if_neg (by omega), if_neg (by omega), if_neg (by omega), if_neg q1]
    have e5 : K' 5 = K 5 + 1 := by
      rw [hK']
      show (if 5 = 33 + 3 * K 5 then v1 else _) = _
      rw [if_neg (by omega), if_neg (by omega), if_neg (by omega), if_pos rfl]
    refine ⟨h0, ⟨?_, ?_, ?_, ?_, ?_, ?_, ?_, ?_, ?_⟩, fun a ha => ?_, fun b hb => ?_, fun i hi => ?_⟩
    · rw [e 7 (by omega) (by omega)]; simp (disch := omega) only [gI_uI_nf, gI_uI_ne]; exact f0
    · rw [e 0 (by omega) (by omega)]; simp (disch := omega) only [gI_uI_nf, gI_uI_ne]; exact f1
    · rw [e 1 (by omega) (by omega)]; simp (disch := omega) only [gI_uI_nf, gI_uI_ne]; exact f2
    · rw [e 2 (by omega) (by omega)]; simp (disch := omega) only [gI_uI_nf, gI_uI_ne]; exact f3
    · rw [e 3 (by omega) (by omega)]; simp (disch := omega) only [gI_uI_nf, gI_uI_ne]; exact f4
    · rw [e 8 (by omega) (by omega)]; simp (disch := omega) only [gI_uI_nf, gI_uI_ne]; exact f5
    · rw [e 4 (by omega) (by omega)]; simp (disch := omega) only [gI_uI_nf, gI_uI_ne]; exact f6
    · rw [e5, gI_uI_at]
    · rw [e 6 (by omega) (by omega)]; simp (disch := omega) only [gI_uI_nf, gI_uI_ne]; exact f14
    · rw [e 4 (by omega) (by omega)] at ha
      have hA' := hA a ha
      rw [e (9 + 3 * a) (by omega) (by omega), e (10 + 3 * a) (by omega) (by omega), e (11 + 3 * a) (by omega) (by omega)]
      simp (disch := omega) only [gI_uI_nf, gI_uI_ne]
      exact hA'
    · rw [e5] at hb
      by_cases q : b = K 5
      · subst q
        have e33 : K' (33 + 3 * K 5) = v1 := by rw [hK']; exact if_pos rfl
        have e34 : K' (34 + 3 * K 5) = v2 := by
          rw [hK']
          show (if 34 + 3 * K 5 = 33 + 3 * K 5 then v1 else _) = _
          rw [if_neg (by omega), if_pos rfl]
        have e35 : K' (35 + 3 * K 5) = v3 := by
          rw [hK']
          show (if 35 + 3 * K 5 = 33 + 3 * K 5 then v1 else _) = _
          rw [if_neg (by omega), if_neg (by omega), if_pos rfl]
        rw [e33, e34, e35]
        refine ⟨?_, ?_, ?_⟩ <;> simp (disch := omega) only [gI_uI_at, gI_uI_nf, gI_uI_ne]
      · have hB' := hB b (by omega)
        have e' : ∀ j, 33 ≤ j → j ≤ 35 → K' (j + 3 * b) = K (j + 3 * b) := fun j p1 p2 => by
          rw [hK']
          show (if j + 3 * b = 33 + 3 * K 5 then v1 else _) = _
          rw [if_neg (by omega), if_neg (by omega), if_neg (by omega), if_neg (by omega)]
        rw [e' 33 (by omega) (by omega), e' 34 (by omega) (by omega), e' 35 (by omega) (by omega)]
        simp (disch := omega) only [gI_uI_nf, gI_uI_ne]
        exact hB'
    · rw [e 6 (by omega) (by omega)] at hi; omega
  · rw [if_neg hf]
    exact ⟨w, rfl, C, Sk.of Sx.rf, fun y => absurd y hf⟩
theorem readBillX_ok (ht : t ≤ 800) (hk : 26 ≤ k) (W : WF K) (h6 : K 6 = 0) (C : CR B t k w z) (HC : CC w k K) (h5 : K 5 < 8) : ∃ w', fX4_readBill w = some w' ∧ CR B t k w' (biZ B t z K) ∧ Sk k w w' ∧ ((biZ B t z K).f = 0 → CC w' k (biK B t z K)) := by
  have hb := W.b
  obtain ⟨w1, a1, c1, s1⟩ := C.word ht (q := 10) (by omega)
  obtain ⟨w2, a2, c2, s2⟩ := c1.word ht (q := 7) (by omega)
  obtain ⟨w3, a3, c3, s3⟩ := c2.num ht (lo := 0) (n := 2) (by omega) (by omega)
  obtain ⟨w4, a4, c4, s4⟩ := c3.word ht (q := 11) (by omega)
  obtain ⟨w5, a5, c5, s5⟩ := c4.num ht (lo := 0) (n := 100) (by omega) (by omega)
  have c5' : CR B t k w5 (biZ5 B t z) := c5
  have S5 := (((s1.tr s2).tr s3).tr s4).tr s5
  have HC5 := HC.p3 hk S5
  unfold fX4_readBill
  rw [C.1.cmp, HC.c10, if_neg (show ¬ ¬ nI (K 5) < 8 from fun y => y (nI_lt (b := 8) h5 (by omega))), a1, bI_some, a2, bI_some, show fX4_takeNumber w2 0 1 = _ from a3, bW_some, a4, bI_some, show fX4_takeNumber w4 0 99 = _ from a5, bW_some, c5'.isW ht (by omega), bI_some, if_b01]
  by_cases g : isz B t 12 (biZ5 B t z) = true
  · obtain ⟨w6, a6, c6, s6⟩ := c5'.word ht (q := 12) (by omega)
    obtain ⟨w7, a7, c7, s7⟩ := c6.num ht (lo := 0) (n := K 5) (by omega) (by omega)
    have HC6 := HC5.p3 hk s6
    have HC7 := HC6.p3 hk s7
    have S7 := (S5.tr s6).tr s7
    rw [if_pos g, a6, bI_some, c6.1.cmp, HC6.c10, aI_pred (by omega), show fX4_takeNumber w6 0 (aI (K 5)) = _ from a7, bW_some, ← aI_s (numV 0 (K 5) (wordZ B t 12 (biZ5 B t z)))]
    by_cases hf5 : (biZ5 B t z).f = 0
    · have eZ : biZ B t z K = numZ B t 0 (K 5) (wordZ B t 12 (biZ5 B t z)) := by unfold biZ; rw [if_pos ⟨hf5, g⟩]
      have eA : biA B t z K = numV 0 (K 5) (wordZ B t 12 (biZ5 B t z)) + 1 := by unfold biA; rw [if_pos ⟨hf5, g⟩]
      obtain ⟨w8, r1, r2, r3, r4⟩ := bill83_ok ht hk W h6 c7 HC7 h5 (v1 := numV 0 2 (biZ2 B t z)) (v2 := numV 0 100 (biZ4 B t z)) (v3 := biA B t z K) (biK B t z K) rfl
      rw [← eA]
      rw [← eZ] at r2 r4
      exact ⟨w8, r1, r2, (Sk.of S7).tr r3, r4⟩
    · have e6 : wordZ B t 12 (biZ5 B t z) = biZ5 B t z := by unfold wordZ; rw [if_neg hf5]
      have e7 : numZ B t 0 (K 5) (biZ5 B t z) = biZ5 B t z := by unfold numZ; rw [if_neg hf5]
      have eZ : biZ B t z K = biZ5 B t z := by unfold biZ; rw [if_neg (fun y => hf5 y.1)]
      rw [e6, e7] at c7
      obtain ⟨w8, r1, r2, r3, r4⟩ := bill83_ok ht hk W h6 c7 HC7 h5 (v1 := numV 0 2 (biZ2 B t z)) (v2 := numV 0 100 (biZ4 B t z)) (v3 := numV 0 (K 5) (wordZ B t 12 (biZ5 B t z)) + 1) _ rfl
      rw [eZ]
      exact ⟨w8, r1, r2, (Sk.of S7).tr r3, fun y => absurd y hf5⟩
  · have eZ : biZ B t z K = biZ5 B t z := by unfold biZ; rw [if_neg (fun y => g y.2)]
    have eA : biA B t z K = 0 := by unfold biA; rw [if_neg (fun y => g y.2)]
    rw [if_neg g]
    obtain ⟨w8, r1, r2, r3, r4⟩ := bill83_ok ht hk W h6 c5' HC5 h5 (v1 := numV 0 2 (biZ2 B t z)) (v2 := numV 0 100 (biZ4 B t z)) (v3 := biA B t z K) (biK B t z K) rfl
    rw [eA] at r1
    rw [eZ]
    exact ⟨w8, r1, r2, (Sk.of S5).tr r3, r4⟩
theorem takeSign_ok (ht : t ≤ 800) (hk : 26 ≤ k) (C : CR B t k w z) (HC : z.f = 0 → CC w k K) (hK : K 7 ≤ 900) : ∃ w', fX4_takeSign w = some w' ∧ CR B t k w' (signZ B t z) ∧ Sk k w w' ∧ ((signZ B t z).f = 0 → CC w' k (fun i => if i = 7 then K 7 + 1 else K i)) := by
  have hI := C.2.1.2.2.2.2.1
  unfold fX4_takeSign signZ
  rw [show (if ¬ gI w 3 0 = 0 then some w else _) = if gI w 3 0 = 0 then _ else some w from ite_not _ _ _, if_f0 C, C.2.2.2.2.1]
  by_cases hf : z.f = 0
  · have HC := HC hf
    rw [if_pos hf, if_pos hf]
    by_cases c : z.c = 3
    · rw [if_neg (show ¬ ¬ nI z.c = 3 from fun y => y (congrArg nI c)), if_pos c, C.1.cmp, HC.c0, nI_1, lT_eq]
      have C1 : CR B t k (uI w k 0 (nI (K 7 + 1))) z := C.put hk (by omega)
      obtain ⟨w', q1, q2, q3⟩ := C1.adv ht hf
      rw [q1, bI_some]
      refine ⟨w', rfl, q2, ((Sk.of Sx.rf).put (by omega) (by omega)).tr (Sk.of q3), fun _ => ?_⟩
      refine CC.p3 ?_ hk q3
      obtain ⟨h0, ⟨f0, f1, f2, f3, f4, f5, f6, f10, f14⟩, hA, hB, hX⟩ := HC
      refine ⟨h0, ⟨gI_uI_at, ?_, ?_, ?_, ?_, ?_, ?_, ?_, ?_⟩, fun a ha => ?_, fun b hb => ?_, fun i hi => ?_⟩
      all_goals simp (disch := omega) only [gI_uI_nf, gI_uI_ne]
      · exact f1
      · exact f2
      · exact f3
      · exact f4
      · exact f5
      · exact f6
      · exact f10
      · exact f14
      · rw [if_neg (by omega), if_neg (by omega), if_neg (by omega)]; exact hA a ha
      · rw [if_neg (by omega), if_neg (by omega), if_neg (by omega)]; exact hB b hb
      · rw [if_neg (by omega)]; exact hX i hi
    · obtain ⟨w', q1, q2, q3⟩ := C.fail ht (n := 1) (by omega) hf
      rw [if_pos (show ¬ nI z.c = 3 from fun y => c ((nI_eqv (b := 3) (by omega) (by omega)).mp y)), if_neg c, show fX4_fail w 1 = _ from q1, bI_some]
      exact ⟨w', rfl, q2, Sk.of q3, fun y => absurd y (errZ_f (by omega))⟩
  · rw [if_neg hf, if_neg hf]
    exact ⟨w, rfl, C, Sk.of Sx.rf, fun y => absurd y hf⟩
end LNX
