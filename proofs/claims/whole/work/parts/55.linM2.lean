/-! READING: a line, by the reference -/
section LNM2
variable {B : Nat → Int32} {t : Nat} {w : HW} {z : ZZ} {K : Nat → Nat}
theorem isz_len {q : Nat} (h : isz B t q z = true) : z.e - z.s = hlen.getD q 0 := by
  unfold isz at h
  rw [Bool.and_eq_true, Bool.and_eq_true, decide_eq_true_eq, decide_eq_true_eq] at h
  exact h.2.1
theorem isz_ch {q : Nat} (h : isz B t q z = true) {i : Nat} (hi : i < hlen.getD q 0) : chB B t (z.s + i) = sCh q (nI i) := by
  unfold isz at h
  rw [Bool.and_eq_true, Bool.and_eq_true] at h
  exact of_decide_eq_true ((alB_iff _).mp h.2.2 i hi)
theorem isz_56 (h : isz B t 5 z = true) : isz B t 6 z = false := by
  cases g : isz B t 6 z with
  | false => rfl
  | true =>
    have a := isz_len h
    have b := isz_len g
    rw [a] at b
    exact absurd b (by decide)
theorem isz_610 (h : isz B t 6 z = true) : isz B t 10 z = false := by
  cases g : isz B t 10 z with
  | false => rfl
  | true =>
    have a := isz_len h
    have b := isz_len g
    rw [a] at b
    exact absurd b (by decide)
theorem isz_510 (h : isz B t 5 z = true) : isz B t 10 z = false := by
  cases g : isz B t 10 z with
  | false => rfl
  | true =>
    have a := isz_ch h (i := 0) (by decide)
    have b := isz_ch g (i := 0) (by decide)
    rw [a] at b
    exact absurd b (by decide)
theorem next77_err (C : MR B t w z) (hf : z.f ≠ 0) : fX10_readNext_77 w = some w := by
  unfold fX10_readNext_77
  rw [C.good, bI_some, if_b01', ite_dec, if_neg hf]
theorem next52_err (C : MR B t w z) (ht : t ≤ 800) (hf : z.f ≠ 0) : fX10_readNext_52 w = some w := by
  unfold fX10_readNext_52
  rw [C.is ht (by omega), bI_some, if_b01, if_neg (by rw [decide_eq_false hf, Bool.false_and]; decide), next77_err C hf]
theorem next32_err (C : MR B t w z) (ht : t ≤ 800) (hf : z.f ≠ 0) : fX10_readNext_32 w = some w := by
  unfold fX10_readNext_32
  rw [C.is ht (by omega), bI_some, if_b01, if_neg (by rw [decide_eq_false hf, Bool.false_and]; decide), next52_err C ht hf]
theorem wordZ_t {q : Nat} (hf : z.f = 0) (h : isz B t q z = true) : wordZ B t q z = zt B t 0 z.p z.e := by
  unfold wordZ
  rw [if_pos hf, if_pos h]
theorem RCg.mark {g g' : Nat → Int32} {m : Nat} (R : RCg g K) (h : ∀ f, f ≠ 8 → g' f = g f) (h8 : g' 8 = nI m) (K' : Nat → Nat) (hK : ∀ i, i ≠ 8 → K' i = K i) (hK8 : K' 8 = m) : RCg g' K' := by
  obtain ⟨⟨r0, r1, r2, r3, r4, r5, r6, r7, r8⟩, hA, hB, hX⟩ := R
  refine ⟨⟨?_, ?_, ?_, ?_, ?_, ?_, ?_, ?_, ?_⟩, fun a ha => ?_, fun b hb => ?_, fun i hi => ?_⟩
  · rw [h _ (by omega), hK _ (by omega)]; exact r0
  · rw [h _ (by omega), hK _ (by omega)]; exact r1
  · rw [h _ (by omega), hK _ (by omega)]; exact r2
  · rw [h _ (by omega), hK _ (by omega)]; exact r3
  · rw [h _ (by omega), hK _ (by omega)]; exact r4
  · rw [h _ (by omega), hK _ (by omega)]; exact r5
  · rw [h _ (by omega), hK _ (by omega)]; exact r6
  · rw [h _ (by omega), hK _ (by omega)]; exact r7
  · rw [h8, hK8]
  · rw [hK _ (by omega)] at ha
    rw [h _ (by omega), h _ (by omega), h _ (by omega), hK _ (by omega), hK _ (by omega), hK _ (by omega)]; exact hA a ha
  · rw [hK _ (by omega)] at hb
    rw [h _ (by omega), h _ (by omega), h _ (by omega), hK _ (by omega), hK _ (by omega), hK _ (by omega)]; exact hB b hb
  · rw [hK _ (by omega)] at hi
    rw [h _ (by omega), hK _ (by omega)]; exact hX i hi
theorem RCg.line {g g' : Nat → Int32} {m : Nat} (R : RCg g K) (h : ∀ f, f ≠ 7 → g' f = g f) (h8 : g' 7 = nI m) (K' : Nat → Nat) (hK : ∀ i, i ≠ 7 → K' i = K i) (hK8 : K' 7 = m) : RCg g' K' := by
  obtain ⟨⟨r0, r1, r2, r3, r4, r5, r6, r7, r8⟩, hA, hB, hX⟩ := R
  refine ⟨⟨?_, ?_, ?_, ?_, ?_, ?_, ?_, ?_, ?_⟩, fun a ha => ?_, fun b hb => ?_, fun i hi => ?_⟩
  · rw [h _ (by omega), hK _ (by omega)]; exact r0
  · rw [h _ (by omega), hK _ (by omega)]; exact r1
  · rw [h _ (by omega), hK _ (by omega)]; exact r2
  · rw [h _ (by omega), hK _ (by omega)]; exact r3
  · rw [h _ (by omega), hK _ (by omega)]; exact r4
  · rw [h _ (by omega), hK _ (by omega)]; exact r5
  · rw [h _ (by omega), hK _ (by omega)]; exact r6
  · rw [h8, hK8]
  · rw [h _ (by omega), hK _ (by omega)]; exact r8
  · rw [hK _ (by omega)] at ha
    rw [h _ (by omega), h _ (by omega), h _ (by omega), hK _ (by omega), hK _ (by omega), hK _ (by omega)]; exact hA a ha
  · rw [hK _ (by omega)] at hb
    rw [h _ (by omega), h _ (by omega), h _ (by omega), hK _ (by omega), hK _ (by omega), hK _ (by omega)]; exact hB b hb
  · rw [hK _ (by omega)] at hi
    rw [h _ (by omega), hK _ (by omega)]; exact hX i hi
theorem readNext_ok (ht : t ≤ 800) (W : WF K) (h6 : K 6 = 0) (C : MR B t w z) (hf : z.f = 0) (R : RCg (gI w 85) K) (c7 : K 7 ≠ 0) : ∃ z1 K1, lnA B t z K = (z1, K1) ∧ K1 7 = K 7 ∧ ∃ w', fX10_readNext w = some w' ∧ MR B t w' z1 ∧ Sgm w w' ∧ RCg (gI w' 85) K1 := by
  have hb := W.b
  have r0 : gI w 85 0 = nI (K 0) := R.1.1
  have r4 : gI w 85 4 = nI (K 4) := R.1.2.2.2.2.1
  have r5 : gI w 85 5 = nI (K 5) := R.1.2.2.2.2.2.1
  have r8 : gI w 85 8 = nI (K 8) := R.1.2.2.2.2.2.2.2.2
  have n5 := C.is ht (q := 5) (by omega)
  have n6 := C.is ht (q := 6) (by omega)
  have n10 := C.is ht (q := 10) (by omega)
  rw [decide_eq_true hf, Bool.true_and] at n5 n6 n10
  obtain ⟨wa, k1, k2, k3⟩ := C.takes ht (q := 5) (by omega)
  rw [decide_eq_true hf, Bool.true_and] at k1
  by_cases g5 : isz B t 5 z = true
  · have g6 := isz_56 g5
    have g10 := isz_510 g5
    rw [g5] at n5 k1
    rw [g6] at n6
    rw [g10] at n10
    rw [if_pos ⟨hf, g5⟩, ← wordZ_t hf g5] at k2
    obtain ⟨wb, l1, l2, l3⟩ := k2.num ht (lo := 0) (n := K 0) (by omega) (by omega)
    have hn : numV 0 (K 0) (wordZ B t 5 z) ≤ K 0 := numV_le
    refine ⟨maZ B t z K, maK B t z K, by unfold lnA; rw [if_neg c7, if_pos g5], maK_ne (by omega), uI wb 85 8 (nI (K 8 ||| 2 ^ numV 0 (K 0) (wordZ B t 5 z))), ?_, MR.put l2, ((Sgm.of k3).tr (Sgm.of l3)).put, R.mark (fun f q => by rw [gI_uI_nf q, s85 l3, s85 k3]) gI_uI_at _ (fun i q => maK_ne q) (by unfold maK; rw [if_pos rfl])⟩
    unfold fX10_readNext
    rw [n5, bI_some, if_neg (show ¬ b01 true = 0 by decide)]
    unfold fX10_readNext_32
    rw [n6, bI_some, if_neg (show ¬ ¬ b01 false = 0 by decide)]
    unfold fX10_readNext_52
    rw [n10, bI_some, if_neg (show ¬ ¬ b01 false = 0 by decide)]
    unfold fX10_readNext_77
    rw [C.good, bI_some, if_b01', ite_dec, if_pos hf, k1, bW_some, if_pos (show ¬ b01 true = 0 by decide), if_pos (show inB 0 77 = true from rfl), ix_0, s85 k3, r0, aI_pred (by omega), show fX10_number wa 0 (aI (K 0)) = _ from l1, bW_some, if_pos (show inB 8 77 = true from rfl), if_pos (show inB 8 77 = true from rfl), ix_8, s85 l3, s85 k3, r8, iSl_1 (by omega), nI_or, lT_eq]
  have g5f : isz B t 5 z = false := by simpa using g5
  rw [g5f] at n5 k1
  rw [if_neg (fun y => g5 y.2)] at k2
  obtain ⟨wc, m1, m2, m3⟩ := k2.takes ht (q := 6) (by omega)
  rw [decide_eq_true hf, Bool.true_and] at m1
  by_cases g6 : isz B t 6 z = true
  · have g10 := isz_610 g6
    rw [g6] at n6 m1
    rw [g10] at n10
    rw [if_pos ⟨hf, g6⟩, ← wordZ_t hf g6] at m2
    by_cases c4 : K 4 = 8
    · obtain ⟨wd, q1, q2, q3⟩ := C.errs ht (n := 3) (by omega)
      refine ⟨errZ 3 z, K, by unfold lnA; rw [if_neg c7, if_neg g5, if_pos g6, if_pos c4], rfl, wd, ?_, q2, Sgm.of q3, ?_⟩
      · unfold fX10_readNext
        rw [n5, bI_some, if_pos (show b01 false = 0 from rfl), n6, bI_some, if_neg (show ¬ b01 true = 0 by decide)]
        unfold fX10_readNext_32
        rw [n6, bI_some, if_pos (show ¬ b01 true = 0 by decide), if_pos (show inB 4 77 = true from rfl), ix_4, r4, c4, if_neg (show ¬ ¬ nI 8 = 8 from fun y => y rfl), show fX10_errs w 3 = _ from q1, bI_some, next77_err q2 (errZ_f (by omega))]
      · rw [show gI wd 85 = gI w 85 from funext (fun f => s85 q3 f)]; exact R
    · have Rc : RCg (gI wc 85) K := by rw [show gI wc 85 = gI w 85 from funext (fun f => (s85 m3 f).trans (s85 k3 f))]; exact R
      obtain ⟨wd, q1, q2, q3, q4⟩ := readAugurM_ok ht W (by omega) h6 m2 Rc
      refine ⟨auZ B t z K, auK B t z K, by unfold lnA; rw [if_neg c7, if_neg g5, if_pos g6, if_neg c4], ?_, wd, ?_, q2, ((Sgm.of k3).tr (Sgm.of m3)).tr q3, q4⟩
      · show auK B t z K 7 = K 7
        unfold auK
        rw [if_neg (by omega), if_neg (by omega), if_neg (by omega), if_neg (by omega)]
      · unfold fX10_readNext
        rw [n5, bI_some, if_pos (show b01 false = 0 from rfl), n6, bI_some, if_neg (show ¬ b01 true = 0 by decide)]
        unfold fX10_readNext_32
        rw [n6, bI_some, if_pos (show ¬ b01 true = 0 by decide), if_pos (show inB 4 77 = true from rfl), ix_4, r4, if_pos (show ¬ nI (K 4) = 8 from fun y => c4 ((nI_eqv (b := 8) (by omega) (by omega)).mp y))]
        unfold fX10_readNext_52
        rw [n10, bI_some, if_neg (show ¬ ¬ b01 false = 0 by decide)]
        unfold fX10_readNext_77
        rw [C.good, bI_some, if_b01', ite_dec, if_pos hf, k1, bW_some, if_neg (show ¬ ¬ b01 false = 0 by decide), m1, bW_some, if_pos (show ¬ b01 true = 0 by decide), q1, bI_some]
  have g6f : isz B t 6 z = false := by simpa using g6
  rw [g6f] at n6 m1
  rw [if_neg (fun y => g6 y.2)] at m2
  by_cases g10 : isz B t 10 z = true
  · rw [g10] at n10
    by_cases c5 : K 5 = 8
    · obtain ⟨wd, q1, q2, q3⟩ := C.errs ht (n := 3) (by omega)
      refine ⟨errZ 3 z, K, by unfold lnA; rw [if_neg c7, if_neg g5, if_neg g6, if_pos g10, if_pos c5], rfl, wd, ?_, q2, Sgm.of q3, ?_⟩
      · unfold fX10_readNext
        rw [n5, bI_some, if_pos (show b01 false = 0 from rfl), n6, bI_some, if_pos (show b01 false = 0 from rfl), n10, bI_some, if_neg (show ¬ b01 true = 0 by decide)]
        unfold fX10_readNext_32
        rw [n6, bI_some, if_neg (show ¬ ¬ b01 false = 0 by decide)]
        unfold fX10_readNext_52
        rw [n10, bI_some, if_pos (show ¬ b01 true = 0 by decide), if_pos (show inB 5 77 = true from rfl), ix_5, r5, c5, if_pos (show nI 8 = 8 from rfl), show fX10_errs w 3 = _ from q1, bI_some, next77_err q2 (errZ_f (by omega))]
      · rw [show gI wd 85 = gI w 85 from funext (fun f => s85 q3 f)]; exact R
    · obtain ⟨wd, o1, o2, o3⟩ := m2.adv ht hf
      rw [← wordZ_t hf g10] at o2
      have Rd : RCg (gI wd 85) K := by rw [show gI wd 85 = gI w 85 from funext (fun f => (s85 o3 f).trans ((s85 m3 f).trans (s85 k3 f)))]; exact R
      obtain ⟨we, q1, q2, q3, q4⟩ := readBillM_ok ht W (by omega) h6 o2 Rd
      refine ⟨biZ B t z K, biK B t z K, by unfold lnA; rw [if_neg c7, if_neg g5, if_neg g6, if_pos g10, if_neg c5], ?_, we, ?_, q2, (((Sgm.of k3).tr (Sgm.of m3)).tr (Sgm.of o3)).tr q3, q4⟩
      · show biK B t z K 7 = K 7
        unfold biK
        rw [if_neg (by omega), if_neg (by omega), if_neg (by omega), if_neg (by omega)]
      · unfold fX10_readNext
        rw [n5, bI_some, if_pos (show b01 false = 0 from rfl), n6, bI_some, if_pos (show b01 false = 0 from rfl), n10, bI_some, if_neg (show ¬ b01 true = 0 by decide)]
        unfold fX10_readNext_32
        rw [n6, bI_some, if_neg (show ¬ ¬ b01 false = 0 by decide)]
        unfold fX10_readNext_52
        rw [n10, bI_some, if_pos (show ¬ b01 true = 0 by decide), if_pos (show inB 5 77 = true from rfl), ix_5, r5, if_neg (show ¬ nI (K 5) = 8 from fun y => c5 ((nI_eqv (b := 8) (by omega) (by omega)).mp y))]
        unfold fX10_readNext_77
        rw [C.good, bI_some, if_b01', ite_dec, if_pos hf, k1, bW_some, if_neg (show ¬ ¬ b01 false = 0 by decide), m1, bW_some, if_neg (show ¬ ¬ b01 false = 0 by decide), o1, bI_some, q1, bI_some]
  · have g10f : isz B t 10 z = false := by simpa using g10
    rw [g10f] at n10
    obtain ⟨wd, q1, q2, q3⟩ := C.errs ht (n := 1) (by omega)
    refine ⟨errZ 1 z, K, by unfold lnA; rw [if_neg c7, if_neg g5, if_neg g6, if_neg g10], rfl, wd, ?_, q2, Sgm.of q3, ?_⟩
    · unfold fX10_readNext
      rw [n5, bI_some, if_pos (show b01 false = 0 from rfl), n6, bI_some, if_pos (show b01 false = 0 from rfl), n10, bI_some, if_pos (show b01 false = 0 from rfl), show fX10_errs w 1 = _ from q1, bI_some, next32_err q2 ht (errZ_f (by omega))]
    · rw [show gI wd 85 = gI w 85 from funext (fun f => s85 q3 f)]; exact R
theorem line21_ok (ht : t ≤ 800) (C : MR B t w z) (R : RCg (gI w 85) K) : ∃ w', fX10_readLine_21 w = some w' ∧ MR B t w' (signZ B t z) ∧ Sgm w w' ∧ RCg (gI w' 85) (fun i => if i = 7 then K 7 + 1 else K i) := by
  have hc := C.2.1.2.2.2.2.1
  have fin : ∀ (w1 : HW) (z1 : ZZ), MR B t w1 z1 → Sx p8 w w1 → z1 = signZ B t z → ∃ w', fX10_readLine_52 w1 = some w' ∧ MR B t w' (signZ B t z) ∧ Sgm w w' ∧ RCg (gI w' 85) (fun i => if i = 7 then K 7 + 1 else K i) := by
    rintro w1 z1 C1 s1 rfl
    have r7 : gI w1 85 7 = nI (K 7) := (s85 s1 7).trans R.1.2.2.2.2.2.2.2.1
    unfold fX10_readLine_52
    rw [if_pos (show inB 7 77 = true from rfl), if_pos (show inB 7 77 = true from rfl), ix_7, r7, nI_1, lT_eq]
    refine ⟨_, rfl, C1.put, (Sgm.of s1).put, R.line (fun f q => by rw [gI_uI_nf q, s85 s1]) gI_uI_at _ (fun i q => if_neg q) (if_pos rfl)⟩
  unfold fX10_readLine_21
  rw [C.good, bI_some, if_b01, ite_dec]
  by_cases hf : z.f = 0
  · rw [if_pos hf, C.2.2.2.2.1]
    by_cases c : z.c = 3
    · obtain ⟨w1, q1, q2, q3⟩ := C.adv ht hf
      rw [if_neg (show ¬ ¬ nI z.c = 3 from fun y => y (congrArg nI c)), bI_some, if_b01, ite_dec, if_pos hf, q1, bI_some]
      exact fin w1 _ q2 q3 (by unfold signZ; rw [if_pos hf, if_pos c])
    · obtain ⟨w1, q1, q2, q3⟩ := C.errs ht (n := 1) (by omega)
      have e1 := errZ_f (z := z) (n := 1) (by omega)
      rw [if_pos (show ¬ nI z.c = 3 from fun y => c ((nI_eqv (b := 3) (by omega) (by omega)).mp y)), show fX10_errs w 1 = _ from q1, bI_some, q2.good, bI_some, if_b01, ite_dec, if_neg e1]
      exact fin w1 _ q2 q3 (by unfold signZ; rw [if_pos hf, if_neg c])
  · rw [if_neg hf, bI_some, if_b01, ite_dec, if_neg hf]
    exact fin w _ C Sx.rf (by unfold signZ; rw [if_neg hf])
theorem readLineM_ok (ht : t ≤ 800) (W : WF K) (h6 : K 6 = 0) (C : MR B t w z) (hf : z.f = 0) (R : RCg (gI w 85) K) : ∃ w', fX10_readLine w = some w' ∧ MR B t w' (lnZ B t z K) ∧ Sgm w w' ∧ RCg (gI w' 85) (lnK B t z K) := by
  have hb := W.b
  unfold fX10_readLine
  rw [if_pos (show inB 7 77 = true from rfl), ix_7, R.1.2.2.2.2.2.2.2.1]
  by_cases c7 : K 7 = 0
  · have eA : lnA B t z K = (frZ B t z, frK B t z K) := by unfold lnA; rw [if_pos c7]
    have eZ : lnZ B t z K = signZ B t (frZ B t z) := by unfold lnZ; rw [eA]
    have eK : lnK B t z K = fun i => if i = 7 then K 7 + 1 else frK B t z K i := by unfold lnK; rw [eA]
    obtain ⟨w1, q1, q2, q3, q4⟩ := readFirst_ok ht C R
    obtain ⟨w2, r1, r2, r3, r4⟩ := line21_ok ht q2 q4
    rw [frK_hi (show 4 ≤ 7 by omega)] at r4
    rw [if_pos (show nI (K 7) = 0 from congrArg nI c7), q1, bI_some, r1, eZ, eK]
    exact ⟨w2, rfl, r2, q3.tr r3, r4⟩
  · obtain ⟨z1, K1, eA, e7, w1, q1, q2, q3, q4⟩ := readNext_ok ht W h6 C hf R c7
    have eZ : lnZ B t z K = signZ B t z1 := by unfold lnZ; rw [eA]
    have eK : lnK B t z K = fun i => if i = 7 then K 7 + 1 else K1 i := by unfold lnK; rw [eA]
    obtain ⟨w2, r1, r2, r3, r4⟩ := line21_ok ht q2 q4
    rw [e7] at r4
    rw [if_neg (show ¬ nI (K 7) = 0 from fun y => c7 ((nI_eqv (b := 0) (by omega) (by omega)).mp y)), q1, bI_some, r1, eZ, eK]
    exact ⟨w2, rfl, r2, q3.tr r3, r4⟩
end LNM2
