/-! BEST, and the draws of luck -/
section BES
variable {w : HW} {K : Nat → Nat}
/-- the best of the first n bills for the day d, one more; 0 for none -/
def bsF (K : Nat → Nat) (d : Nat) : Nat → Nat
  | 0 => 0
  | n + 1 => if (cpF K n d && (decide (bsF K d n = 0) || decide (K (34 + 3 * (bsF K d n - 1)) < K (34 + 3 * n)))) = true then n + 1 else bsF K d n
theorem bsF_le (K : Nat → Nat) (d : Nat) : ∀ n, bsF K d n ≤ n := by
  intro n
  induction n with
  | zero => exact Nat.le_refl _
  | succ n ih => unfold bsF; split <;> omega
/-- its worth, one more; 0 for none -/
def bwF (K : Nat → Nat) (b : Nat) : Nat := if b = 0 then 0 else K (34 + 3 * (b - 1)) + 1
theorem bestX_L {kn ks : Nat} (W : WF K) (HN : RelN w kn ks) (HC : CC w kn K) (S : CS K false 0 w (K 0)) {d : Nat} (hd : d < K 0) : ∀ F i, i ≤ K 5 → K 5 - i < F → fX9_best_32 (nI d) F w (aI (bsF K d i)) (aI (bwF K (bsF K d i))) (nI i) = some (aI (bsF K d (K 5)), w) := by
  have hb := W.b
  intro F
  induction F with
  | zero => intro i a b; omega
  | succ F ih =>
    intro i a b
    rw [fX9_best_32]
    simp only [now_ok HN, HC.c10]
    by_cases hi : i < K 5
    · have hB := W.bil hi
      have hle := bsF_le K d i
      have i1 := ih (i + 1) (by omega) (by omega)
      rw [bsF] at i1
      have hbw : bwF K (bsF K d i) ≤ 100 := by
        unfold bwF
        split
        · omega
        · have := W.bil (b := bsF K d i - 1) (by omega); omega
      have hlt : (aI (bwF K (bsF K d i)) < nI (K (34 + 3 * i))) ↔ (bsF K d i = 0 ∨ K (34 + 3 * (bsF K d i - 1)) < K (34 + 3 * i)) := by
        unfold bwF
        by_cases c : bsF K d i = 0
        · rw [if_pos c, aI_0]; exact ⟨fun _ => Or.inl c, fun _ => neg_lt _ (by omega)⟩
        · have := W.bil (b := bsF K d i - 1) (by omega)
          rw [if_neg c, aI_s, nI_ltI (by omega) (by omega)]
          exact ⟨fun h => Or.inr h, fun h => h.resolve_left c⟩
      rw [if_pos (nI_lt hi (by omega)), if_pos (inB_nI (by omega) (by omega)), if_pos (inB_nI (by omega) (by omega)), ix_nI (by omega), (HC.bil hi).2.1, could_ok HC W S hi hd, bI_some, if_b01, lT_eq, nI_1]
      by_cases c : bsF K d i = 0 ∨ K (34 + 3 * (bsF K d i - 1)) < K (34 + 3 * i)
      · have e : (decide (bsF K d i = 0) || decide (K (34 + 3 * (bsF K d i - 1)) < K (34 + 3 * i))) = true := by simpa using c
        rw [e, Bool.and_true] at i1
        rw [if_pos (hlt.mpr c)]
        by_cases c2 : cpF K i d = true
        · rw [if_pos c2] at i1 ⊢
          rw [show bwF K (i + 1) = K (34 + 3 * i) + 1 by unfold bwF; rw [if_neg (by omega), Nat.add_sub_cancel], aI_s, aI_s] at i1
          exact i1
        · rw [if_neg c2] at i1 ⊢
          exact i1
      · have e : (decide (bsF K d i = 0) || decide (K (34 + 3 * (bsF K d i - 1)) < K (34 + 3 * i))) = false := by
          cases q : (decide (bsF K d i = 0) || decide (K (34 + 3 * (bsF K d i - 1)) < K (34 + 3 * i)))
          · rfl
          · exact absurd (by simpa using q) c
        rw [e, Bool.and_false, if_neg (by decide)] at i1
        rw [if_neg (fun z => c (hlt.mp z))]
        exact i1
    · have e : i = K 5 := by omega
      rw [if_neg (nI_nlt (by omega) (by omega)), e]
theorem bestM_L (W : WF K) (S : MS K false 0 w (K 0)) {d : Nat} (hd : d < K 0) : ∀ F i, i ≤ K 5 → K 5 - i < F → fX10_best_15 (nI d) F w (aI (bsF K d i)) (nI i) = some (aI (bsF K d (K 5)), w) := by
  have hb := W.b
  intro F
  induction F with
  | zero => intro i a b; omega
  | succ F ih =>
    intro i a b
    rw [fX10_best_15, if_pos (show inB 5 77 = true from rfl), ix_5, S.1.r5]
    by_cases hi : i < K 5
    · have hB := W.bil hi
      have hab := aB_le W i
      have hle := bsF_le K d i
      have i1 := ih (i + 1) (by omega) (by omega)
      rw [bsF] at i1
      have h64 : ∀ t : Bool, t = cpF K i d → fX10_best_64 w (fun w x2 x3 => fX10_best_15 (nI d) F w x2 x3) (nI d) (aI (bsF K d i)) (nI i) (b01 t) = some (aI (bsF K d (K 5)), w) := by
        rintro t rfl
        unfold fX10_best_64
        rw [if_b01]
        by_cases c2 : cpF K i d = true
        · rw [c2, Bool.true_and] at i1
          rw [if_pos c2, nI_1]
          by_cases c : bsF K d i = 0
          · rw [decide_eq_true c, Bool.true_or, if_pos rfl, aI_s] at i1
            rw [if_neg (fun z => z ((aI_m1 (by omega)).mpr c))]; exact i1
          · obtain ⟨p, hp⟩ : ∃ p, bsF K d i = p + 1 := ⟨bsF K d i - 1, by omega⟩
            have hP := W.bil (b := p) (by omega)
            rw [hp, Nat.add_sub_cancel] at i1
            rw [if_pos (fun z => c ((aI_m1 (by omega)).mp z)), hp, aI_s, X10_of_1 S.1 W hi, X10_of_1 S.1 W (a := p) (by omega), bI_some, bI_some]
            by_cases c3 : K (34 + 3 * p) < K (34 + 3 * i)
            · rw [if_pos (by simp [c3]), aI_s] at i1
              rw [if_pos (nI_lt c3 (by omega))]; exact i1
            · rw [if_neg (by simp [c3]), aI_s] at i1
              rw [if_neg (nI_nlt (by omega) (by omega))]; exact i1
        · rw [show cpF K i d = false by simpa using c2, Bool.false_and, if_neg (by decide)] at i1
          rw [if_neg c2, nI_1]; exact i1
      have h45 : (decide (aB K i = 0) || decide (aB K i = d + 1)) = true → fX10_best_45 w (fun w x2 x3 => fX10_best_15 (nI d) F w x2 x3) (nI d) (aI (bsF K d i)) (nI i) = some (aI (bsF K d (K 5)), w) := by
        intro ha
        have hl := whyF_le K (sea K false 0 (K 0)).1 i d (decide (K 2 ≤ huF K d))
        unfold fX10_best_45
        rw [doEat_ok S.1 W (by omega) (S.2.1 d hd), bI_some, whyOn_ok S.1 W S.2.2.1 (fun c => sea_lt W false 0 c) hi hd, bI_some]
        by_cases c : whyF K (sea K false 0 (K 0)).1 i d (decide (K 2 ≤ huF K d)) = 0
        · rw [if_pos (show nI (whyF K (sea K false 0 (K 0)).1 i d (decide (K 2 ≤ huF K d))) = 0 from congrArg nI c)]
          exact h64 true (by unfold cpF; rw [ha, decide_eq_true c]; rfl)
        · rw [if_neg (nI_ne0 (by omega) (by omega))]
          exact h64 false (by unfold cpF; rw [decide_eq_false c, Bool.and_false])
      rw [if_pos (nI_lt hi (by omega)), if_pos (inB_nI (by omega) (by omega)), if_pos (inB_nI (by omega) (by omega)), ix_nI (by omega), S.2.2.2.2.1 i (by omega)]
      by_cases c2 : aB K i = 0
      · rw [if_neg (fun z => z ((aI_m1 (by omega)).mpr c2))]
        exact h45 (by simp [c2])
      · rw [if_pos (fun z => c2 ((aI_m1 (by omega)).mp z))]
        by_cases c3 : aB K i = d + 1
        · rw [if_pos (by rw [c3, aI_s])]
          exact h45 (by simp [c3])
        · rw [if_neg (fun z => c3 ((aI_nI (by omega) (by omega)).mp z.symm))]
          exact h64 false (by unfold cpF; simp [c2, c3])
    · have e : i = K 5 := by omega
      rw [if_neg (nI_nlt (by omega) (by omega)), e]
end BES
theorem ag_best {w : HW} (H : Rel w) (x : Int32) : Agree w (fX9_best · x) (fX10_best · x) := by
  obtain ⟨HO, K, W, HR, kn, ks, HN, HC⟩ := id H
  have hb := W.b
  by_cases c : 0 ≤ x ∧ x < nI (K 0)
  · obtain ⟨d, hd, rfl⟩ := rng_of (by omega) c
    obtain ⟨w1, p1, p2, p3⟩ := play_sx W HN HC
    have ex : fX9_best w (nI d) = some (aI (bsF K d (K 5)), w1) := by
      unfold fX9_best
      simp only [now_ok HN, X0_hasDay_ok HC W, bI_some, if_b01', ite_dec]
      rw [if_pos c, p1, bI_some]
      exact bestX_L W (HN.sx p3) (HC.sx p3) p2 hd FU 0 (by omega) (by rw [FU_eq]; omega)
    obtain ⟨w2, q1, q2⟩ := day_sx W HO HR p3 (nI d)
    have em : fX10_best w1 (nI d) = some (aI (bsF K d (K 5)), w2) := by
      unfold fX10_best
      rw [q1, bW_some, if_b01', if_pos (decide_eq_true c)]
      exact bestM_L W q2 hd FU 0 (by omega) (by rw [FU_eq]; omega)
    exact ⟨_, _, _, ex, em, (H.sx p3).sx (rX10_best Sx.rf _ _ em)⟩
  · have ex : fX9_best w x = some (-2, w) := by
      unfold fX9_best
      simp only [now_ok HN, X0_hasDay_ok HC W, bI_some, if_b01', ite_dec]
      rw [if_neg c]
    obtain ⟨w2, q1, q2⟩ := day_sx W HO HR Sx.rf x
    have em : fX10_best w x = some (-2, w2) := by
      unfold fX10_best
      rw [q1, bW_some, if_b01', if_neg (fun z => c (of_decide_eq_true z))]
    exact ⟨_, _, _, ex, em, H.sx (rX10_best Sx.rf _ _ em)⟩
