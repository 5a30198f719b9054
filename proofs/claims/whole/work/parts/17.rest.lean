/-! GENERAL AND AUGUR; counts -/
theorem rest_one (w : HW) (x y a s : Int32) (ha : a = 0 ∨ a = 1) (hs : s = 0 ∨ s = 1) : ∃ r, fX9_isAtRest w x y a s = some r ∧ fX10_isRest w a s x y = some r := by
  rcases ha with rfl | rfl <;> rcases hs with rfl | rfl
  · unfold fX9_isAtRest fX10_isRest fX9_isAtRest_18 fX10_isRest_16 fX10_isRest_42 fX9_augurHas fX9_augurHas_9 fX10_augur_ fX10_augur__17 fX9_generalHas fX10_general
    simp [bI_some]
    split <;> (try split) <;> simp
  · unfold fX9_isAtRest fX10_isRest fX9_isAtRest_18 fX10_isRest_16 fX10_isRest_42 fX9_augurHas fX9_augurHas_9 fX10_augur_ fX10_augur__17 fX9_generalHas fX10_general
    simp [bI_some]
    split <;> (try split) <;> simp
  · unfold fX9_isAtRest fX10_isRest fX9_isAtRest_18 fX10_isRest_16 fX10_isRest_42 fX9_augurHas fX9_augurHas_9 fX10_augur_ fX10_augur__17 fX9_generalHas fX10_general
    simp [bI_some]
    split <;> (try split) <;> simp
  · unfold fX9_isAtRest fX10_isRest fX9_isAtRest_18 fX10_isRest_16 fX10_isRest_42 fX9_augurHas fX9_augurHas_9 fX10_augur_ fX10_augur__17 fX9_generalHas fX10_general
    simp [bI_some]
    split <;> (try split) <;> simp
theorem or_0 (x : Int32) : x ||| 0 = x := Int32.or_zero
theorem rests_step (w : HW) (x y acc : Int32) {i : Nat} (a s : Int32) (ha : a = 0 ∨ a = 1) (hs : s = 0 ∨ s = 1) (K K' : Int32 → Int32 → Option Int32) (hK : ∀ acc, ∃ r, K acc (nI (i + 1)) = some r ∧ K' acc (nI (i + 1)) = some r) : ∃ r, fX9_rests_53 w K x y acc (nI i) s a y x = some r ∧ fX10_rests_62 w K' x y (nI i) s a acc = some r := by
  unfold fX9_rests_53 fX10_rests_62
  obtain ⟨r, h1, h2⟩ := rest_one w x y a s ha hs
  rw [h1, h2, bI_some, bI_some, nI_1]
  simp only [lT_eq, or_0]
  by_cases h : r = 0
  · rw [if_neg (fun z => z h), if_neg (fun z => z h)]; exact hK _
  · rw [if_pos h, if_pos h]; exact hK _
theorem rests_L (w : HW) (x y : Int32) : ∀ F i acc, i ≤ 4 → 4 - i < F → ∃ r, fX9_rests_22 w x y F acc (nI i) = some r ∧ fX10_rests_32 w x y F acc (nI i) = some r := by
  intro F
  induction F with
  | zero => intro i acc h1 h2; omega
  | succ F ih =>
    intro i acc h1 h2
    rw [fX9_rests_22, fX10_rests_32]
    by_cases hi : i < 4
    · rw [if_pos (show nI i < (4 : Int32) from nI_lt (b := 4) hi (by omega)), if_pos (show nI i < (4 : Int32) from nI_lt (b := 4) hi (by omega))]
      have hK : ∀ acc, ∃ r, (fun x3 x4 => fX9_rests_22 w x y F x3 x4) acc (nI (i + 1)) = some r ∧ (fun x3 x4 => fX10_rests_32 w x y F x3 x4) acc (nI (i + 1)) = some r := fun acc => ih (i + 1) acc (by omega) (by omega)
      by_cases c1 : nI i < (2 : Int32)
      · rw [if_pos c1, if_pos c1]
        by_cases c2 : iRm (nI i) 2 = 0
        · rw [if_pos c2, if_pos c2]; exact rests_step w x y acc 1 1 (Or.inr rfl) (Or.inr rfl) _ _ hK
        · rw [if_neg c2, if_neg c2]; exact rests_step w x y acc 1 0 (Or.inr rfl) (Or.inl rfl) _ _ hK
      · rw [if_neg c1, if_neg c1]
        by_cases c2 : iRm (nI i) 2 = 0
        · rw [if_pos c2, if_pos c2]; exact rests_step w x y acc 0 1 (Or.inl rfl) (Or.inr rfl) _ _ hK
        · rw [if_neg c2, if_neg c2]; exact rests_step w x y acc 0 0 (Or.inl rfl) (Or.inl rfl) _ _ hK
    · have e : i = 4 := by omega
      rw [e, if_neg (by decide), if_neg (by decide)]
      exact ⟨acc, rfl, rfl⟩
theorem isWorth_ok (w : HW) (x : Int32) : fX9_isWorth w x = some (b01 (decide (0 ≤ x ∧ x < nI 100))) := by
  unfold fX9_isWorth
  rw [← in_dec (n := 100) (by omega) (nI 100) rfl]
  have e : (¬ (99 : Int32) < x) ↔ x < nI 100 := by
    rw [fa_lt, fa_lt]
    have h1 : (99 : Int32).toInt = 99 := rfl
    have h2 : (nI 100).toInt = 100 := rfl
    omega
  by_cases h : x < 0
  · rw [if_neg (fun z => z h), if_neg (fun z => z h)]
  · rw [if_pos h, if_pos h]
    by_cases h2 : x < nI 100
    · rw [if_pos (e.mpr h2), if_pos h2]
    · rw [if_neg (fun z => h2 (e.mp z)), if_neg h2]
theorem ag_rests {w : HW} (H : Rel w) (x y : Int32) : Agree w (pu (fX9_rests · x y)) (pu (fX10_rests · x y)) := by
  have e1 : fX9_rests w x y = if 0 ≤ x ∧ x < nI 100 then (if 0 ≤ y ∧ y < nI 100 then fX9_rests_22 w x y FU 0 0 else some (-2)) else some (-2) := by
    unfold fX9_rests
    rw [isWorth_ok, isWorth_ok, bI_some, bI_some, if_b01, if_b01', ite_dec, ite_dec]
  have e2 : fX10_rests w x y = if 0 ≤ x ∧ x < nI 100 then (if 0 ≤ y ∧ y < nI 100 then fX10_rests_32 w x y FU 0 0 else some (-2)) else some (-2) := by
    unfold fX10_rests
    rw [in_lit w x 99 99 99 rfl rfl (by omega), in_lit w y 99 99 99 rfl rfl (by omega), bI_some, bI_some, if_b01, if_b01', ite_dec, ite_dec]
  obtain ⟨r, h1, h2⟩ := rests_L w x y FU 0 0 (by omega) (by rw [FU_eq]; omega)
  by_cases c1 : 0 ≤ x ∧ x < nI 100
  · rw [if_pos c1] at e1 e2
    by_cases c2 : 0 ≤ y ∧ y < nI 100
    · rw [if_pos c2] at e1 e2
      exact agree_ro H (e1.trans h1) (e2.trans h2)
    · rw [if_neg c2] at e1 e2
      exact agree_ro H e1 e2
  · rw [if_neg c1] at e1 e2
    exact agree_ro H e1 e2
theorem believes_L (w : HW) (x : Int32) : ∀ F i, i ≤ 100 → 100 - i < F → ∃ r, fX9_believes_12 w x F (nI i) = some r ∧ fX10_believes_17 w x F (nI i) = some r := by
  intro F
  induction F with
  | zero => intro i h1 h2; omega
  | succ F ih =>
    intro i h1 h2
    rw [fX9_believes_12, fX10_believes_17]
    by_cases hi : i < 100
    · have c : ¬ (99 : Int32) < nI i := nI_nlt (a := 99) (by omega) (by omega)
      obtain ⟨r, r1, r2⟩ := rest_one w x (nI i) 1 1 (Or.inr rfl) (Or.inr rfl)
      rw [if_pos c, if_pos c, r1, r2, bI_some, bI_some, nI_1]
      by_cases h : r = 0
      · rw [if_neg (fun z => z h), if_neg (fun z => z h)]
        exact ih (i + 1) (by omega) (by omega)
      · rw [if_pos h, if_pos h]
        exact ⟨_, rfl, rfl⟩
    · have e : i = 100 := by omega
      rw [e, if_neg (by decide), if_neg (by decide)]
      exact ⟨_, rfl, rfl⟩
theorem ag_believes {w : HW} (H : Rel w) (x : Int32) : Agree w (pu (fX9_believes · x)) (pu (fX10_believes · x)) := by
  have e1 : fX9_believes w x = if 0 ≤ x ∧ x < nI 100 then fX9_believes_12 w x FU 0 else some (-2) := by
    unfold fX9_believes
    rw [isWorth_ok, bI_some, if_b01', ite_dec]
  have e2 : fX10_believes w x = if 0 ≤ x ∧ x < nI 100 then fX10_believes_17 w x FU 0 else some (-2) := by
    unfold fX10_believes
    rw [in_lit w x 99 99 99 rfl rfl (by omega), bI_some, if_b01', ite_dec]
  obtain ⟨r, h1, h2⟩ := believes_L w x FU 0 (by omega) (by rw [FU_eq]; omega)
  by_cases c1 : 0 ≤ x ∧ x < nI 100
  · rw [if_pos c1] at e1 e2
    exact agree_ro H (e1.trans h1) (e2.trans h2)
  · rw [if_neg c1] at e1 e2
    exact agree_ro H e1 e2
theorem isThere_ok (w : HW) (k : Nat) : fX5_isThere w k = some (b01 (!decide (gI w k 1 = -1))) := by
  unfold fX5_isThere
  by_cases h : gI w k 1 = -1 <;> simp [h, b01]
theorem RelS.there {w : HW} {s : Nat} (H : RelS w s) : (gI w (44 + 2 * s) 1 = -1) ↔ (gI w 98 s = -1) := by
  rcases H.2 with ⟨h1, h2⟩ | ⟨d, n, h1, h2, h3, h4, h5, h6⟩
  · exact ⟨fun _ => h2, fun _ => h1⟩
  · exact ⟨fun h => absurd (h3.symm.trans h) (nI_ne_m1 (by omega)), fun h => absurd (h5.symm.trans h) (nI_ne_m1 (by omega))⟩
theorem slots_L {w : HW} (H : ∀ s, s < 4 → RelS w s) : ∀ F i acc, i ≤ 4 → 4 - i < F → ∃ r, fX9_slotsInUse_4 w F acc (nI i) = some r ∧ fX10_count_42 w F acc (nI i) = some r := by
  intro F
  induction F with
  | zero => intro i acc h1 h2; omega
  | succ F ih =>
    intro i acc h1 h2
    rw [fX9_slotsInUse_4, fX10_count_42]
    by_cases hi : i < 4
    · have hs := (H i hi).there
      rw [if_pos (show nI i < (4 : Int32) from nI_lt (b := 4) hi (by omega)), if_pos (show nI i < (4 : Int32) from nI_lt (b := 4) hi (by omega)), if_pos (inB_nI hi (by omega)), if_pos (inB_nI hi (by omega)), ix_nI (by omega), isThere_ok, bI_some, if_b01, nI_1]
      simp only [lT_eq]
      by_cases h : gI w 98 i = -1
      · rw [if_pos h, if_neg (by simp [hs.mpr h]), Int32.add_zero]
        exact ih (i + 1) acc (by omega) (by omega)
      · rw [if_neg h, if_pos (by simpa using fun z => h (hs.mp z))]
        exact ih (i + 1) (acc + 1) (by omega) (by omega)
    · have e : i = 4 := by omega
      rw [e, if_neg (by decide), if_neg (by decide)]
      exact ⟨acc, rfl, rfl⟩
theorem ag_count {w : HW} (H : Rel w) (x : Int32) : Agree w (pu (fX9_count · x)) (pu (fX10_count · x)) := by
  obtain ⟨HO, K, W, HR, kn, ks, HN, HC⟩ := id H
  have hb := W.b
  obtain ⟨t, t1, t2, t3⟩ := HO.1.1
  obtain ⟨r, h1, h2⟩ := slots_L HO.2.2.2.2 FU 0 0 (by omega) (by rw [FU_eq]; omega)
  have e2 : fX10_count w x = if 0 ≤ x ∧ x < nI 8 then (if inB x 77 = true then some (gI w 80 (ix x)) else none) else if x = 8 then some (gI w 79 5) else if ¬ x = 9 then some (-1) else fX10_count_42 w FU 0 0 := by
    unfold fX10_count
    rw [in_lit w x 7 7 7 rfl rfl (by omega), bI_some, if_b01, ite_dec]
  by_cases c : 0 ≤ x ∧ x < nI 8
  · rw [if_pos c] at e2
    obtain ⟨j, hj, rfl⟩ := rng_of (by omega) c
    rw [if_pos (inB_nI (by omega) (by omega)), ix_nI (by omega)] at e2
    refine agree_ro H (r := gI w 80 j) ?_ e2
    unfold fX9_count
    simp only [now_ok HN]
    rcases (show j = 0 ∨ j = 1 ∨ j = 2 ∨ j = 3 ∨ j = 4 ∨ j = 5 ∨ j = 6 ∨ j = 7 by omega) with rfl | rfl | rfl | rfl | rfl | rfl | rfl | rfl
    · rw [if_pos (show nI 0 = (0 : Int32) from rfl), HC.c1, HR.r0]
    · rw [if_neg (show ¬ nI 1 = (0 : Int32) by decide), if_pos (show nI 1 = (1 : Int32) from rfl), HC.c2, HR.r1]
    · rw [if_neg (show ¬ nI 2 = (0 : Int32) by decide), if_neg (show ¬ nI 2 = (1 : Int32) by decide), if_pos (show nI 2 = (2 : Int32) from rfl), HC.c3, HR.r2]
    · rw [if_neg (show ¬ nI 3 = (0 : Int32) by decide), if_neg (show ¬ nI 3 = (1 : Int32) by decide), if_neg (show ¬ nI 3 = (2 : Int32) by decide), if_pos (show nI 3 = (3 : Int32) from rfl), HC.c4, HR.r3]
    · rw [if_neg (show ¬ nI 4 = (0 : Int32) by decide), if_neg (show ¬ nI 4 = (1 : Int32) by decide), if_neg (show ¬ nI 4 = (2 : Int32) by decide), if_neg (show ¬ nI 4 = (3 : Int32) by decide), if_pos (show nI 4 = (4 : Int32) from rfl), HC.c6, HR.r4]
    · rw [if_neg (show ¬ nI 5 = (0 : Int32) by decide), if_neg (show ¬ nI 5 = (1 : Int32) by decide), if_neg (show ¬ nI 5 = (2 : Int32) by decide), if_neg (show ¬ nI 5 = (3 : Int32) by decide), if_neg (show ¬ nI 5 = (4 : Int32) by decide), if_pos (show nI 5 = (5 : Int32) from rfl), HC.c10, HR.r5]
    · rw [if_neg (show ¬ nI 6 = (0 : Int32) by decide), if_neg (show ¬ nI 6 = (1 : Int32) by decide), if_neg (show ¬ nI 6 = (2 : Int32) by decide), if_neg (show ¬ nI 6 = (3 : Int32) by decide), if_neg (show ¬ nI 6 = (4 : Int32) by decide), if_neg (show ¬ nI 6 = (5 : Int32) by decide), if_pos (show nI 6 = (6 : Int32) from rfl), HC.c14, HR.r6]
    · rw [if_neg (show ¬ nI 7 = (0 : Int32) by decide), if_neg (show ¬ nI 7 = (1 : Int32) by decide), if_neg (show ¬ nI 7 = (2 : Int32) by decide), if_neg (show ¬ nI 7 = (3 : Int32) by decide), if_neg (show ¬ nI 7 = (4 : Int32) by decide), if_neg (show ¬ nI 7 = (5 : Int32) by decide), if_neg (show ¬ nI 7 = (6 : Int32) by decide), if_pos (show nI 7 = (7 : Int32) from rfl), HC.c0, HR.r7]
  · rw [if_neg c] at e2
    have nz : ∀ j : Nat, j < 8 → ¬ x = nI j := fun j hj e => c (by rw [e]; exact nI_rng (by omega) hj)
    have e1 : fX9_count w x = if x = 8 then some (gI w 1 1) else if x = 9 then (bI (fX9_slotsInUse w) fun r => some r) else some (-1) := by
      unfold fX9_count
      rw [if_neg (show ¬ x = 0 from nz 0 (by omega)), if_neg (show ¬ x = 1 from nz 1 (by omega)), if_neg (show ¬ x = 2 from nz 2 (by omega)), if_neg (show ¬ x = 3 from nz 3 (by omega)), if_neg (show ¬ x = 4 from nz 4 (by omega)), if_neg (show ¬ x = 5 from nz 5 (by omega)), if_neg (show ¬ x = 6 from nz 6 (by omega)), if_neg (show ¬ x = 7 from nz 7 (by omega))]
    by_cases c8 : x = 8
    · rw [if_pos c8] at e1 e2
      exact agree_ro H (e1.trans (congrArg some (t2.trans t3.symm))) e2
    · rw [if_neg c8] at e1 e2
      by_cases c9 : x = 9
      · rw [if_pos c9] at e1
        rw [if_neg (fun z => z c9)] at e2
        refine agree_ro H (r := r) ?_ (e2.trans h2)
        rw [e1]
        unfold fX9_slotsInUse
        rw [show fX9_slotsInUse_4 w FU 0 0 = some r from h1, bI_some]
      · rw [if_neg c9] at e1
        rw [if_pos c9] at e2
        exact agree_ro H e1 e2
