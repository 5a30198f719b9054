/-! READING: a line, by the class -/
section LNX2
variable {B : Nat → Int32} {t k : Nat} {w : HW} {z : ZZ} {K : Nat → Nat}
theorem readLineX_ok (ht : t ≤ 800) (hk : 26 ≤ k) (W : WF K) (h6 : K 6 = 0) (C : CR B t k w z) (hf : z.f = 0) (HC : CC w k K) : ∃ w', fX4_readLine w = some w' ∧ CR B t k w' (lnZ B t z K) ∧ Sk k w w' ∧ ((lnZ B t z K).f = 0 → CC w' k (lnK B t z K)) := by
  have hb := W.b
  have fin : ∀ (X : Option HW) (w1 : HW) (z1 : ZZ) (K1 : Nat → Nat), X = some w1 → CR B t k w1 z1 → Sk k w w1 → (z1.f = 0 → CC w1 k K1) → lnA B t z K = (z1, K1) → K1 7 = K 7 → ∃ w', (bI X fun w_4 => bI (fX4_takeSign w_4) fun w_6 => some w_6) = some w' ∧ CR B t k w' (lnZ B t z K) ∧ Sk k w w' ∧ ((lnZ B t z K).f = 0 → CC w' k (lnK B t z K)) := by
    intro X w1 z1 K1 hX c1 s1 h1 e h7
    have eZ : lnZ B t z K = signZ B t z1 := by unfold lnZ; rw [e]
    have eK : lnK B t z K = fun i => if i = 7 then K 7 + 1 else K1 i := by unfold lnK; rw [e]
    obtain ⟨w2, r1, r2, r3, r4⟩ := takeSign_ok ht hk c1 h1 (by omega)
    rw [h7] at r4
    rw [hX, bI_some, r1, bI_some, eZ, eK]
    exact ⟨w2, rfl, r2, s1.tr r3, r4⟩
  unfold fX4_readLine
  rw [C.1.cmp, HC.c0]
  by_cases c7 : K 7 = 0
  · have eA : lnA B t z K = (frZ B t z, frK B t z K) := by unfold lnA; rw [if_pos c7]
    rw [if_pos (show nI (K 7) = 0 from congrArg nI c7)]
    obtain ⟨w1, q1, q2, q3, q4⟩ := readCamp_ok ht hk C HC
    exact fin _ w1 (frZ B t z) (frK B t z K) q1 q2 q3 q4 eA (frK_hi (by omega))
  rw [if_neg (show ¬ nI (K 7) = 0 from fun y => c7 ((nI_eqv (b := 0) (by omega) (by omega)).mp y)), C.isW ht (by omega), bI_some, if_b01]
  by_cases g5 : isz B t 5 z = true
  · have eA : lnA B t z K = (maZ B t z K, maK B t z K) := by unfold lnA; rw [if_neg c7, if_pos g5]
    rw [if_pos g5]
    obtain ⟨w1, q1, q2, q3, q4⟩ := readMark_ok ht hk W C HC
    exact fin _ w1 (maZ B t z K) (maK B t z K) q1 q2 q3 q4 eA (maK_ne (by omega))
  rw [if_neg g5, C.isW ht (by omega), bI_some, if_b01]
  by_cases g6 : isz B t 6 z = true
  · rw [if_pos g6]
    by_cases c4 : K 4 = 8
    · have eA : lnA B t z K = (errZ 3 z, K) := by unfold lnA; rw [if_neg c7, if_neg g5, if_pos g6, if_pos c4]
      obtain ⟨w1, q1, q2, q3⟩ := C.fail ht (n := 3) (by omega) hf
      have q1' : fX4_readAugur w = some w1 := by
        unfold fX4_readAugur
        rw [C.1.cmp, HC.c6, if_pos (show ¬ nI (K 4) < 8 from nI_nlt (b := 8) (by omega) (by omega)), show fX4_fail w 3 = _ from q1, bI_some]
      exact fin _ w1 (errZ 3 z) (K) q1' q2 (Sk.of q3) (fun y => absurd y (errZ_f (by omega))) eA rfl
    · have eA : lnA B t z K = (auZ B t z K, auK B t z K) := by unfold lnA; rw [if_neg c7, if_neg g5, if_pos g6, if_neg c4]
      obtain ⟨w1, q1, q2, q3, q4⟩ := readAugurX_ok ht hk W h6 C HC (by omega)
      exact fin _ w1 (auZ B t z K) (auK B t z K) q1 q2 q3 q4 eA (by
        show auK B t z K 7 = K 7
        unfold auK
        rw [if_neg (by omega), if_neg (by omega), if_neg (by omega), if_neg (by omega)])
  rw [if_neg g6, C.isW ht (by omega), bI_some, if_b01]
  by_cases g10 : isz B t 10 z = true
  · rw [if_pos g10]
    by_cases c5 : K 5 = 8
    · have eA : lnA B t z K = (errZ 3 z, K) := by unfold lnA; rw [if_neg c7, if_neg g5, if_neg g6, if_pos g10, if_pos c5]
      obtain ⟨w1, q1, q2, q3⟩ := C.fail ht (n := 3) (by omega) hf
      have q1' : fX4_readBill w = some w1 := by
        unfold fX4_readBill
        rw [C.1.cmp, HC.c10, if_pos (show ¬ nI (K 5) < 8 from nI_nlt (b := 8) (by omega) (by omega)), show fX4_fail w 3 = _ from q1, bI_some]
      exact fin _ w1 (errZ 3 z) (K) q1' q2 (Sk.of q3) (fun y => absurd y (errZ_f (by omega))) eA rfl
    · have eA : lnA B t z K = (biZ B t z K, biK B t z K) := by unfold lnA; rw [if_neg c7, if_neg g5, if_neg g6, if_pos g10, if_neg c5]
      obtain ⟨w1, q1, q2, q3, q4⟩ := readBillX_ok ht hk W h6 C HC (by omega)
      exact fin _ w1 (biZ B t z K) (biK B t z K) q1 q2 q3 q4 eA (by
        show biK B t z K 7 = K 7
        unfold biK
        rw [if_neg (by omega), if_neg (by omega), if_neg (by omega), if_neg (by omega)])
  · have eA : lnA B t z K = (errZ 1 z, K) := by unfold lnA; rw [if_neg c7, if_neg g5, if_neg g6, if_neg g10]
    obtain ⟨w1, q1, q2, q3⟩ := C.fail ht (n := 1) (by omega) hf
    rw [if_neg g10]
    exact fin _ w1 (errZ 1 z) (K) q1 q2 (Sk.of q3) (fun y => absurd y (errZ_f (by omega))) eA rfl
end LNX2
