/-! LISTS OF SIGNS: tally, doubt, share, leans -/
theorem lRm_0 (x : Int64) {y : Int64} (hy : y ≠ 0) : (lRm x y).toInt = x.toInt.tmod y.toInt := by
  have hx := fb_rngL x
  have hY := fb_rngL y
  have hy0 : y.toInt ≠ 0 := fun z => hy (Int64.toInt_inj.mp z)
  have h1 : (x.toInt.tmod y.toInt).natAbs < y.toInt.natAbs := by
    rw [Int.natAbs_tmod]
    exact Nat.mod_lt _ (by omega)
  have h2 := Int.tmod_add_mul_tdiv x.toInt y.toInt
  unfold lRm
  rw [Int64.toInt_sub, Int64.toInt_mul, Int64.toInt_div, Int.bmod_mul_bmod, Int.sub_bmod_bmod]
  rw [show x.toInt - x.toInt.tdiv y.toInt * y.toInt = x.toInt.tmod y.toInt by rw [Int.mul_comm]; omega]
  exact fb_bmodL (by omega) (by omega)
/-- Euclid's steps end -/
def EuG : Nat → Int64 → Int64 → Prop
  | 0, _, b => b = 0
  | s + 1, a, b => b = 0 ∨ EuG s b (lRm a b)
def fib2 : Nat → Nat × Nat
  | 0 => (1, 1)
  | s + 1 => ((fib2 s).2, (fib2 s).1 + (fib2 s).2)
theorem EuG_many : ∀ (s : Nat) (a b : Int64), b.toInt.natAbs < a.toInt.natAbs → ¬ EuG s a b → (fib2 s).1 ≤ b.toInt.natAbs ∧ (fib2 s).2 ≤ a.toInt.natAbs := by
  intro s
  induction s with
  | zero =>
    intro a b h1 h2
    have : b.toInt ≠ 0 := fun z => h2 (Int64.toInt_inj.mp z)
    show 1 ≤ _ ∧ 1 ≤ _
    omega
  | succ s ih =>
    intro a b h1 h2
    have hb : b ≠ 0 := fun z => h2 (Or.inl z)
    have hb0 : b.toInt ≠ 0 := fun z => hb (Int64.toInt_inj.mp z)
    have e := lRm_0 a hb
    have h3 : (lRm a b).toInt.natAbs < b.toInt.natAbs := by
      rw [e, Int.natAbs_tmod]
      exact Nat.mod_lt _ (by omega)
    obtain ⟨k1, k2⟩ := ih b (lRm a b) h3 (fun z => h2 (Or.inr z))
    refine ⟨k2, ?_⟩
    show (fib2 s).1 + (fib2 s).2 ≤ _
    have h4 : (lRm a b).toInt.natAbs = a.toInt.natAbs % b.toInt.natAbs := by rw [e, Int.natAbs_tmod]
    have h5 := Nat.div_add_mod a.toInt.natAbs b.toInt.natAbs
    have h6 : 0 < a.toInt.natAbs / b.toInt.natAbs := Nat.div_pos (by omega) (by omega)
    have h7 : b.toInt.natAbs * 1 ≤ b.toInt.natAbs * (a.toInt.natAbs / b.toInt.natAbs) := Nat.mul_le_mul (Nat.le_refl _) h6
    omega
theorem EuG_100 (a b : Int64) : EuG 100 a b := by
  by_cases hb : b = 0
  · exact Or.inl hb
  · refine Or.inr (Classical.byContradiction fun h => ?_)
    have hb0 : b.toInt ≠ 0 := fun z => hb (Int64.toInt_inj.mp z)
    have e := lRm_0 a hb
    have h3 : (lRm a b).toInt.natAbs < b.toInt.natAbs := by
      rw [e, Int.natAbs_tmod]
      exact Nat.mod_lt _ (by omega)
    have h4 := (EuG_many 99 b (lRm a b) h3 h).2
    have h5 := fb_rngL b
    have h6 : 2 ^ 64 < (fib2 99).2 := by decide +kernel
    omega
theorem lg_0 (x y : Int64) : lg_cmp x y = 0 ↔ x = y := by
  unfold lg_cmp
  constructor
  · intro h
    split at h
    · exact absurd h (by decide)
    · split at h
      · assumption
      · exact absurd h (by decide)
  · intro h
    subst h
    rw [if_neg (fun z => by have := (fa_lt64 _ _).mp z; omega), if_pos rfl]
theorem euclid_ok (w w' : HW) : ∀ (s i : Nat) (a b : Int64) (F F' : Nat), EuG s a b → i + s ≤ 100 → s < F → s < F' → ∃ g, fX9_greatestCommon_3 w F a b (nI i) = some g ∧ fX10_divisor_6 w' F' a b = some g ∧ (g = 0 → a = 0 ∧ b = 0) := by
  intro s
  induction s with
  | zero =>
    intro i a b F F' h1 h2 h3 h4
    obtain ⟨F, rfl⟩ : ∃ G, F = G + 1 := ⟨F - 1, by omega⟩
    obtain ⟨F', rfl⟩ : ∃ G, F' = G + 1 := ⟨F' - 1, by omega⟩
    rw [fX9_greatestCommon_3, fX10_divisor_6, if_neg (show ¬ ¬ lg_cmp b 0 = 0 from fun z => z ((lg_0 _ _).mpr h1)), if_neg (show ¬ ¬ lg_cmp b 0 = 0 from fun z => z ((lg_0 _ _).mpr h1)), ite_self]
    refine ⟨a, ?_, rfl, fun z => ⟨z, h1⟩⟩
    rfl
  | succ s ih =>
    intro i a b F F' h1 h2 h3 h4
    obtain ⟨F, rfl⟩ : ∃ G, F = G + 1 := ⟨F - 1, by omega⟩
    obtain ⟨F', rfl⟩ : ∃ G, F' = G + 1 := ⟨F' - 1, by omega⟩
    by_cases hb : b = 0
    · rw [fX9_greatestCommon_3, fX10_divisor_6, if_neg (show ¬ ¬ lg_cmp b 0 = 0 from fun z => z ((lg_0 _ _).mpr hb)), if_neg (show ¬ ¬ lg_cmp b 0 = 0 from fun z => z ((lg_0 _ _).mpr hb)), ite_self]
      refine ⟨a, ?_, rfl, fun z => ⟨z, hb⟩⟩
      rfl
    · obtain ⟨g, e1, e2, e3⟩ := ih (i + 1) b (lRm a b) F F' (h1.resolve_left hb) (by omega) (by omega) (by omega)
      rw [fX9_greatestCommon_3, fX10_divisor_6, if_pos (show nI i < 100 from nI_lt (b := 100) (by omega) (by omega)), if_pos (fun z => hb ((lg_0 _ _).mp z)), if_pos (fun z => hb ((lg_0 _ _).mp z)), if_neg hb, if_neg hb, lT_eq, lT_eq, nI_1]
      exact ⟨g, e1, e2, fun z => absurd (e3 z).1 hb⟩
theorem gcd_ok (w w' : HW) (a b : Int64) (hb : b ≠ 0) : ∃ g, g ≠ 0 ∧ fX9_greatestCommon w a b = some g ∧ fX10_divisor w' a b = some g := by
  obtain ⟨g, e1, e2, e3⟩ := euclid_ok w w' 100 0 a b FU FU (EuG_100 a b) (by omega) (by rw [FU_eq]; omega) (by rw [FU_eq]; omega)
  exact ⟨g, fun z => hb (e3 z).2, e1, e2⟩
/-- both sides' parts of a fraction -/
theorem part_ok (w w' : HW) (a b : Int64) (hb : b ≠ 0) (x : Int32) : ∃ r, fX9_partOfFraction w a b x = some r ∧ fX10_part w' a b x = some r := by
  obtain ⟨g, h0, e1, e2⟩ := gcd_ok w w' a b hb
  unfold fX9_partOfFraction fX10_part
  rw [e1, e2, bI_some, bI_some, bI_some, if_neg (fun z => h0 ((lg_0 _ _).mp z)), if_neg h0, if_neg h0]
  by_cases hx : x = 0
  · rw [if_pos hx]; exact ⟨_, rfl, rfl⟩
  · rw [if_neg hx]; exact ⟨_, rfl, rfl⟩
/-- ways to choose j out of m + j -/
def cv (m : Nat) : Nat → Nat
  | 0 => 1
  | j + 1 => cv m j * (m + (j + 1)) / (j + 1)
theorem cv_b : ∀ m, m < 31 → ∀ j, j < 31 → m + j ≤ 30 → 0 < cv m j ∧ cv m j < 2 ^ 40 := by decide +kernel
theorem lN_toI {n : Nat} (h : n < 2 ^ 63) : (lN n).toInt = n := Int64.toInt_ofNat_of_lt h
theorem wide_nI {n : Nat} (h : n < 2 ^ 31) : (nI n).toInt64 = lN n := by
  apply Int64.toInt_inj.mp
  rw [Int32.toInt_toInt64, nI_toInt h, lN_toI (by omega)]
theorem lN_div {a b : Nat} (ha : a < 2 ^ 63) (hb : b < 2 ^ 63) (hb0 : 0 < b) : lN a / lN b = lN (a / b) := by
  apply Int64.toInt_inj.mp
  have h3 : a / b ≤ a := Nat.div_le_self a b
  rw [Int64.toInt_div, lN_toI ha, lN_toI hb, lN_toI (by omega), Int.tdiv_eq_ediv_of_nonneg (by omega)]
  rw [← Int.natCast_ediv]
  generalize a / b = q at *
  exact fb_bmodL (by omega) (by omega)
theorem choose_L (w : HW) {n k : Nat} (hk : k ≤ n) (hn : n ≤ 30) : ∀ F j, 1 ≤ j → j ≤ k + 1 → k + 1 - j < F → fX7_choose_16 w (nI n) (nI k) F (lN (cv (n - k) (j - 1))) (nI j) = some (lN (cv (n - k) k)) ∧ fX10_choose_18 w (nI n) (nI k) F (lN (cv (n - k) (j - 1))) (nI j) = some (lN (cv (n - k) k)) := by
  intro F
  induction F with
  | zero => intro j h1 h2 h3; omega
  | succ F ih =>
    intro j h1 h2 h3
    rw [fX7_choose_16, fX10_choose_18]
    by_cases hj : j ≤ k
    · obtain ⟨j, rfl⟩ : ∃ i, j = i + 1 := ⟨j - 1, by omega⟩
      have b1 := cv_b (n - k) (by omega) j (by omega) (by omega)
      have b2 : cv (n - k) j * (n - k + (j + 1)) < 2 ^ 63 := by
        have := Nat.mul_le_mul (Nat.le_of_lt b1.2) (show n - k + (j + 1) ≤ 2 ^ 5 by omega)
        omega
      have e : lN (cv (n - k) (j + 1 - 1)) * (nI n - nI k + nI (j + 1)).toInt64 / (nI (j + 1)).toInt64 = lN (cv (n - k) (j + 1 + 1 - 1)) := by
        rw [nI_subI hk, nI_add, wide_nI (by omega), wide_nI (by omega), Nat.add_sub_cancel, lN_mul, lN_div b2 (by omega) (by omega)]
        rfl
      rw [if_pos (nI_nlt (by omega) (by omega)), if_pos (nI_nlt (by omega) (by omega)), if_neg (fun z => by
        rw [wide_nI (by omega)] at z
        have := congrArg Int64.toInt z
        rw [lN_toI (by omega)] at this
        exact absurd this (by show ¬ ((j + 1 : Nat) : Int) = 0; omega)), if_neg (fun z => by
        rw [wide_nI (by omega)] at z
        have := congrArg Int64.toInt z
        rw [lN_toI (by omega)] at this
        exact absurd this (by show ¬ ((j + 1 : Nat) : Int) = 0; omega)), lT_eq, lT_eq, e, nI_1]
      exact ih (j + 1 + 1) (by omega) (by omega) (by omega)
    · have e : j = k + 1 := by omega
      subst e
      rw [if_neg (fun z => z (nI_lt (by omega) (by omega))), if_neg (fun z => z (nI_lt (by omega) (by omega)))]
      exact ⟨rfl, rfl⟩
theorem choose_ok (w w' : HW) {n : Nat} (hn : n ≤ 30) (x : Int32) : ∃ r, fX7_choose w (nI n) x = some r ∧ fX10_choose w' (nI n) x = some r ∧ (∀ k, x = nI k → k ≤ n → r ≠ 0) := by
  unfold fX7_choose fX10_choose
  rw [show fX10_in w' x.toInt64 0 (nI n).toInt64 = some (if 0 ≤ x ∧ x ≤ nI n then 1 else 0) from in_0 w' x (nI n), bI_some]
  by_cases h1 : x < 0
  · rw [if_neg (fun z => z h1), if_neg (show ¬ (0 ≤ x ∧ x ≤ nI n) from fun z => by have := z.1; rw [fa_le] at this; rw [fa_lt] at h1; omega), if_pos rfl]
    exact ⟨0, rfl, rfl, fun k e hk => absurd (e ▸ h1) (nI_pos (by omega))⟩
  · rw [if_pos h1]
    by_cases h2 : nI n < x
    · rw [if_pos h2, if_neg (show ¬ (0 ≤ x ∧ x ≤ nI n) from fun z => by have := z.2; rw [fa_le] at this; rw [fa_lt] at h2; omega), if_pos rfl]
      exact ⟨0, rfl, rfl, fun k e hk => absurd (e ▸ h2) (nI_nlt (by omega) (by omega))⟩
    · rw [if_neg h2, if_pos (show 0 ≤ x ∧ x ≤ nI n from ⟨Int32.not_lt.mp h1, Int32.not_lt.mp h2⟩), if_neg (by decide)]
      obtain ⟨k, hk, rfl⟩ := rng_of (n := n + 1) (by omega) ⟨Int32.not_lt.mp h1, by have := Int32.not_lt.mp h2; rw [fa_le, nI_toInt (by omega)] at this; rw [fa_lt, nI_toInt (by omega)]; omega⟩
      have e := choose_L w (n := n) (k := k) (by omega) hn FU 1 (by omega) (by omega) (by rw [FU_eq]; omega)
      have e' := choose_L w' (n := n) (k := k) (by omega) hn FU 1 (by omega) (by omega) (by rw [FU_eq]; omega)
      refine ⟨_, e.1, e'.2, fun _ _ _ z => ?_⟩
      have b1 := cv_b (n - k) (by omega) k (by omega) (by omega)
      have := congrArg Int64.toInt z
      rw [lN_toI (by omega)] at this
      have e0 : (0 : Int64).toInt = 0 := rfl
      omega
/-- 0 or 1 -/
def bq (x : Int64) : Prop := ¬ lg_cmp x 0 < 0 ∧ ¬ 0 < lg_cmp x 1
theorem bq_01 {x : Int64} (h : bq x) : x = 0 ∨ x = 1 := by
  obtain ⟨h1, h2⟩ := h
  unfold lg_cmp at h1 h2
  have a1 : ¬ x.toInt < 0 := fun z => by
    rw [if_neg (fun q => by have := (fa_lt64 _ _).mp q; have e0 : (0 : Int64).toInt = 0 := rfl; omega), if_neg (fun q => by subst q; exact absurd z (by decide))] at h1
    exact h1 (by decide)
  have a2 : ¬ 1 < x.toInt := fun z => by
    rw [if_pos (show x > 1 from (fa_lt64 _ _).mpr z)] at h2
    exact h2 (by decide)
  rcases (show x.toInt = 0 ∨ x.toInt = 1 by omega) with h | h
  · exact Or.inl (Int64.toInt_inj.mp h)
  · exact Or.inr (Int64.toInt_inj.mp h)
/-- the code of a pair -/
def pcd (v : Nat → Int64) (p : Nat) : Nat := 2 * (if v (2 * p) = 1 then 1 else 0) + (if v (2 * p + 1) = 1 then 1 else 0)
theorem pcd_lt (v : Nat → Int64) (p : Nat) : pcd v p < 4 := by
  unfold pcd
  split <;> split <;> omega
theorem pcd_eq {v : Nat → Int64} {p : Nat} (h1 : bq (v (2 * p))) (h2 : bq (v (2 * p + 1))) : (v (2 * p)).toInt32 * 2 + (v (2 * p + 1)).toInt32 = nI (pcd v p) ∧ 2 * (v (2 * p)).toInt32 + (v (2 * p + 1)).toInt32 = nI (pcd v p) := by
  unfold pcd
  rcases bq_01 h1 with e1 | e1 <;> rcases bq_01 h2 with e2 | e2 <;> rw [e1, e2] <;> exact ⟨rfl, rfl⟩
/-- how many of the first m pairs have the code j -/
def pct (v : Nat → Int64) (j : Nat) : Nat → Nat
  | 0 => 0
  | m + 1 => pct v j m + if pcd v m = j then 1 else 0
theorem pct_sum (v : Nat → Int64) : ∀ m, pct v 0 m + pct v 1 m + pct v 2 m + pct v 3 m = m := by
  intro m
  induction m with
  | zero => rfl
  | succ m ih =>
    have := pcd_lt v m
    unfold pct
    rcases (show pcd v m = 0 ∨ pcd v m = 1 ∨ pcd v m = 2 ∨ pcd v m = 3 by omega) with h | h | h | h <;> rw [h] <;> simp <;> omega
def pok (v : Nat → Int64) (m : Nat) : Prop := ∀ p, p < m → bq (v (2 * p)) ∧ bq (v (2 * p + 1))
theorem signsX_L {k m : Nat} (hk : k ≠ 23) (v : Nat → Int64) (hm : 2 * m ≤ 60) : ∀ F p (w : HW), p ≤ m → m - p < F → gI w k 2 = nI (2 * m) → (∀ i, i < 60 → gL w (k + 1) i = v i) → pok v p → (∀ j, j < 4 → gI w 23 j = nI (pct v j p)) → ∃ r w', fX7_look_33 k F w (nI (2 * p)) = some (r, w') ∧ ((r = 1 ∧ pok v m ∧ ∀ j, j < 4 → gI w' 23 j = nI (pct v j m)) ∨ (r = 0 ∧ ¬ pok v m)) := by
  intro F
  induction F with
  | zero => intro p w h1 h2; omega
  | succ F ih =>
    intro p w h1 h2 h3 h4 h5 h6
    rw [fX7_look_33, h3, nI_1]
    by_cases hp : p < m
    · rw [if_pos (nI_lt (by omega) (by omega)), if_pos (inB_nI (by omega) (by omega)), ix_nI (by omega), h4 _ (by omega), lT_eq, if_pos (inB_nI (by omega) (by omega)), ix_nI (by omega), h4 _ (by omega), lT_eq]
      by_cases a1 : lg_cmp (v (2 * p)) 0 < 0
      · rw [if_neg (fun z => z a1)]
        exact ⟨_, _, rfl, Or.inr ⟨rfl, fun z => (z p hp).1.1 a1⟩⟩
      rw [if_pos a1]
      by_cases a2 : 0 < lg_cmp (v (2 * p)) 1
      · rw [if_neg (fun z => z a2)]
        exact ⟨_, _, rfl, Or.inr ⟨rfl, fun z => (z p hp).1.2 a2⟩⟩
      rw [if_pos a2]
      by_cases b1 : lg_cmp (v (2 * p + 1)) 0 < 0
      · rw [if_neg (fun z => z b1)]
        exact ⟨_, _, rfl, Or.inr ⟨rfl, fun z => (z p hp).2.1 b1⟩⟩
      rw [if_pos b1]
      by_cases b2 : 0 < lg_cmp (v (2 * p + 1)) 1
      · rw [if_pos b2]
        exact ⟨_, _, rfl, Or.inr ⟨rfl, fun z => (z p hp).2.2 b2⟩⟩
      rw [if_neg b2]
      have hc := pcd_lt v p
      rw [(pcd_eq ⟨a1, a2⟩ ⟨b1, b2⟩).1, if_pos (inB_nI hc (by omega)), if_pos (inB_nI hc (by omega)), ix_nI (by omega), h6 _ hc, lT_eq, show nI (pct v (pcd v p) p) + 1 = nI (pct v (pcd v p) p + 1) from nI_1 _, show nI (2 * p) + 2 = nI (2 * (p + 1)) from nI_add (2 * p) 2]
      refine ih (p + 1) _ (by omega) (by omega) ?_ (fun i hi => ?_) (fun q hq => ?_) (fun j hj => ?_)
      · rw [gI_uI_ne hk]; exact h3
      · exact h4 i hi
      · by_cases e : q = p
        · subst e; exact ⟨⟨a1, a2⟩, ⟨b1, b2⟩⟩
        · exact h5 q (by omega)
      · show _ = nI (pct v j p + if pcd v p = j then 1 else 0)
        by_cases e : pcd v p = j
        · subst e; rw [gI_uI_at, if_pos rfl]
        · rw [gI_uI_nf (fun z => e z.symm), if_neg e]; exact h6 j hj
    · have e : p = m := by omega
      subst e
      rw [if_neg (nI_nlt (by omega) (by omega))]
      exact ⟨_, _, rfl, Or.inl ⟨rfl, h5, h6⟩⟩
theorem signsM_L {s m : Nat} (hs : s < 4) (v : Nat → Int64) (hm : 2 * m ≤ 60) : ∀ F p (w : HW), p ≤ m → m - p < F → gI w 98 s = nI (2 * m) → (∀ i, i < 60 → gL w 100 (60 * s + i) = v i) → pok v p → (∀ j, j < 4 → gI w 97 j = nI (pct v j p)) → ∃ r w', fX10_layList_70 (nI s) F w (nI (2 * p)) = some (r, w') ∧ ((r = 0 ∧ pok v m ∧ ∀ j, j < 4 → gI w' 97 j = nI (pct v j m)) ∨ (r = -2 ∧ ¬ pok v m)) := by
  intro F
  induction F with
  | zero => intro p w h1 h2; omega
  | succ F ih =>
    intro p w h1 h2 h3 h4 h5 h6
    rw [fX10_layList_70, if_pos (inB_nI (by omega) (by omega)), ix_nI (by omega), h3, nI_1]
    by_cases hp : p < m
    · have n1 : fX10_numberAt w (nI s) (nI (2 * p)) = some (v (2 * p)) := by
        unfold fX10_numberAt
        rw [idx60, if_pos (inB_nI (by omega) (by omega)), ix_nI (by omega), h4 _ (by omega)]
      have n2 : fX10_numberAt w (nI s) (nI (2 * p + 1)) = some (v (2 * p + 1)) := by
        unfold fX10_numberAt
        rw [idx60, if_pos (inB_nI (by omega) (by omega)), ix_nI (by omega), h4 _ (by omega)]
      rw [if_pos (nI_lt (by omega) (by omega))]
      simp only [n1, n2, bI_some]
      unfold fX10_in
      by_cases a1 : lg_cmp (v (2 * p)) 0 < 0
      · rw [if_neg (fun z => z a1), bI_some, if_neg (fun z => z rfl)]
        exact ⟨_, _, rfl, Or.inr ⟨rfl, fun z => (z p hp).1.1 a1⟩⟩
      rw [if_pos a1]
      by_cases a2 : 0 < lg_cmp (v (2 * p)) 1
      · rw [if_neg (fun z => z a2), bI_some, if_neg (fun z => z rfl)]
        exact ⟨_, _, rfl, Or.inr ⟨rfl, fun z => (z p hp).1.2 a2⟩⟩
      rw [if_pos a2, bI_some, if_pos (by decide)]
      by_cases b1 : lg_cmp (v (2 * p + 1)) 0 < 0
      · rw [if_neg (fun z => z b1), bI_some, if_pos rfl]
        exact ⟨_, _, rfl, Or.inr ⟨rfl, fun z => (z p hp).2.1 b1⟩⟩
      rw [if_pos b1]
      by_cases b2 : 0 < lg_cmp (v (2 * p + 1)) 1
      · rw [if_neg (fun z => z b2), bI_some, if_pos rfl]
        exact ⟨_, _, rfl, Or.inr ⟨rfl, fun z => (z p hp).2.2 b2⟩⟩
      rw [if_pos b2, bI_some, if_neg (by decide)]
      have hc := pcd_lt v p
      rw [(pcd_eq ⟨a1, a2⟩ ⟨b1, b2⟩).2, if_pos (inB_nI hc (by omega)), if_pos (inB_nI hc (by omega)), ix_nI (by omega), h6 _ hc, lT_eq, show nI (pct v (pcd v p) p) + 1 = nI (pct v (pcd v p) p + 1) from nI_1 _, show nI (2 * p) + 2 = nI (2 * (p + 1)) from nI_add (2 * p) 2]
      refine ih (p + 1) _ (by omega) (by omega) ?_ (fun i hi => ?_) (fun q hq => ?_) (fun j hj => ?_)
      · rw [gI_uI_ne (by omega)]; exact h3
      · exact h4 i hi
      · by_cases e : q = p
        · subst e; exact ⟨⟨a1, a2⟩, ⟨b1, b2⟩⟩
        · exact h5 q (by omega)
      · show _ = nI (pct v j p + if pcd v p = j then 1 else 0)
        by_cases e : pcd v p = j
        · subst e; rw [gI_uI_at, if_pos rfl]
        · rw [gI_uI_nf (fun z => e z.symm), if_neg e]; exact h6 j hj
    · have e : p = m := by omega
      subst e
      rw [if_neg (nI_nlt (by omega) (by omega))]
      exact ⟨_, _, rfl, Or.inl ⟨rfl, h5, h6⟩⟩
theorem sg0_L : ∀ F i (w : HW), i ≤ 4 → 4 - i < F → (∀ j, j < i → gI w 23 j = 0) → ∀ k, ∃ w', fX7_look_2 k F w (nI i) = fX7_look_20 w' k ∧ (∀ j, j < 4 → gI w' 23 j = 0) ∧ Sx sc w w' := by
  intro F
  induction F with
  | zero => intro i w h1 h2; omega
  | succ F ih =>
    intro i w h1 h2 h3 k
    rw [fX7_look_2]
    by_cases hi : i < 4
    · rw [if_pos (show nI i < 4 from nI_lt (b := 4) hi (by omega)), if_pos (inB_nI (by omega) (by omega)), ix_nI (by omega), lT_eq, nI_1]
      obtain ⟨w', e, a, b⟩ := ih (i + 1) (uI w 23 i 0) (by omega) (by omega) (fun j hj => by
        rw [gI_uI]
        by_cases e : j = i
        · rw [if_pos ⟨rfl, e⟩]
        · rw [if_neg (by omega)]; exact h3 j (by omega)) k
      exact ⟨w', e, a, (Sx.rf.uI rfl).tr b⟩
    · rw [if_neg (show ¬ nI i < 4 from nI_nlt (b := 4) (by omega) (by omega))]
      exact ⟨w, rfl, fun j hj => h3 j (by omega), Sx.rf⟩
theorem sm0_L : ∀ F i (w : HW), i ≤ 4 → 4 - i < F → (∀ j, j < i → gI w 97 j = 0) → ∀ k, ∃ w', fX10_layList_50 k F w (nI i) = fX10_layList_70 k FU w' 0 ∧ (∀ j, j < 4 → gI w' 97 j = 0) ∧ Sx sc w w' := by
  intro F
  induction F with
  | zero => intro i w h1 h2; omega
  | succ F ih =>
    intro i w h1 h2 h3 k
    rw [fX10_layList_50]
    by_cases hi : i < 4
    · rw [if_pos (show nI i < 4 from nI_lt (b := 4) hi (by omega)), if_pos (inB_nI (by omega) (by omega)), ix_nI (by omega), lT_eq, nI_1]
      obtain ⟨w', e, a, b⟩ := ih (i + 1) (uI w 97 i 0) (by omega) (by omega) (fun j hj => by
        rw [gI_uI]
        by_cases e : j = i
        · rw [if_pos ⟨rfl, e⟩]
        · rw [if_neg (by omega)]; exact h3 j (by omega)) k
      exact ⟨w', e, a, (Sx.rf.uI rfl).tr b⟩
    · rw [if_neg (show ¬ nI i < 4 from nI_nlt (b := 4) (by omega) (by omega))]
      exact ⟨w, rfl, fun j hj => h3 j (by omega), Sx.rf⟩
theorem odd_n {n : Nat} (hn : n ≤ 60) : iRm (nI n) 2 = 0 ↔ n % 2 = 0 := by
  rw [show iRm (nI n) 2 = nI (n % 2) from pk_rem (d := 2) (by omega) (by omega) (by omega)]
  rcases (show n % 2 = 0 ∨ n % 2 = 1 by omega) with h | h <;> rw [h]
  · exact ⟨fun _ => rfl, fun _ => rfl⟩
  · exact ⟨fun z => absurd z (by decide), fun z => absurd z (by decide)⟩
theorem lay0 (w : HW) (x : Int32) : fX10_layList w x 0 = some (-2, w) := by
  unfold fX10_layList fX10_isCamp
  rw [X10_isSlot_ok, bI_some, if_b01]
  split
  · rw [if_pos (show inB 7 77 = true from rfl)]
    split
    · rw [bI_some, if_pos (by decide), if_pos rfl]
    · rw [bI_some, if_neg (by decide)]
  · rfl
/-- the list of a slot, on both sides -/
theorem list_ok {w : HW} (H : Rel w) (x : Int32) : ∃ (r : Int32) (c : Nat → Nat), (r = 0 ∨ r = -2 ∨ r = -6) ∧ c 0 + c 1 + c 2 + c 3 ≤ 30 ∧ (∃ w1, fX9_lookAtList w x = some (r, w1) ∧ Sx sc w w1 ∧ (r = 0 → ∀ j, j < 4 → gI w1 23 j = nI (c j))) ∧ ∀ w1, Sx sc w w1 → ∃ w2, fX10_layList w1 x 1 = some (r, w2) ∧ Sx sc w1 w2 ∧ (r = 0 → ∀ j, j < 4 → gI w2 97 j = nI (c j)) := by
  obtain ⟨HO, K, W, HR, kn, ks, HN, HC⟩ := id H
  have fx : ∀ (r : Int32) w1, fX9_lookAtList w x = some (r, w1) → Sx sc w w1 := fun r w1 h => rX9_lookAtList Sx.rf x _ h
  have fm : ∀ w0 (r : Int32) w1, fX10_layList w0 x 1 = some (r, w1) → Sx sc w0 w1 := fun w0 r w1 h => rX10_layList Sx.rf x 1 _ h
  have mk : ∀ (r : Int32) (c : Nat → Nat), (r = 0 ∨ r = -2 ∨ r = -6) → c 0 + c 1 + c 2 + c 3 ≤ 30 → (∃ w1, fX9_lookAtList w x = some (r, w1) ∧ (r = 0 → ∀ j, j < 4 → gI w1 23 j = nI (c j))) → (∀ w1, Sx sc w w1 → ∃ w2, fX10_layList w1 x 1 = some (r, w2) ∧ (r = 0 → ∀ j, j < 4 → gI w2 97 j = nI (c j))) → ∃ (r : Int32) (c : Nat → Nat), (r = 0 ∨ r = -2 ∨ r = -6) ∧ c 0 + c 1 + c 2 + c 3 ≤ 30 ∧ (∃ w1, fX9_lookAtList w x = some (r, w1) ∧ Sx sc w w1 ∧ (r = 0 → ∀ j, j < 4 → gI w1 23 j = nI (c j))) ∧ ∀ w1, Sx sc w w1 → ∃ w2, fX10_layList w1 x 1 = some (r, w2) ∧ Sx sc w1 w2 ∧ (r = 0 → ∀ j, j < 4 → gI w2 97 j = nI (c j)) := by
    rintro r c h1 h2 ⟨w1, a1, a2⟩ h4
    refine ⟨r, c, h1, h2, ⟨w1, a1, fx _ _ a1, a2⟩, fun w1 hw => ?_⟩
    obtain ⟨w2, b1, b2⟩ := h4 w1 hw
    exact ⟨w2, b1, fm _ _ _ b1, b2⟩
  have ex : fX9_lookAtList w x = if 0 ≤ x ∧ x < nI 4 then (if 0 < K 7 then (if inB x 4 = true then bI (fX5_isThere w (44 + 2 * ix x)) fun r_9 => if r_9 = 0 then some (-6, w) else if inB x 4 = true then bW (fX7_look w (44 + 2 * ix x)) fun r_13 w_14 => if ¬ r_13 = 0 then some (0, w_14) else some (-2, w_14) else none else none) else some (-2, w)) else some (-2, w) := by
    unfold fX9_lookAtList
    simp only [now_ok HN, X9_hasSlot_ok, X0_isTold_ok HC W, bI_some, if_b01, if_b01', ite_dec]
  have em : ∀ w1, Sx sc w w1 → fX10_layList w1 x 1 = if 0 ≤ x ∧ x < nI 4 then (if 0 < K 7 then (if inB x 4 = true then (if gI w1 98 (ix x) = -1 then some (-6, w1) else if inB x 4 = true then (if ¬ iRm (gI w1 98 (ix x)) 2 = 0 then some (-2, w1) else fX10_layList_50 x FU w1 0) else none) else none) else some (-2, w1)) else some (-2, w1) := by
    intro w1 hw
    unfold fX10_layList
    simp only [X10_isSlot_ok, X10_isCamp_ok (HR.sx hw) W, bI_some, if_b01, ite_dec]
    rfl
  by_cases c : 0 ≤ x ∧ x < nI 4
  · by_cases h7 : 0 < K 7
    · obtain ⟨s, hs, rfl⟩ := rng_of (by omega) c
      have HS := HO.2.2.2.2 s hs
      rw [if_pos c, if_pos h7, if_pos (inB_nI (by omega) (by omega)), ix_nI (by omega)] at ex
      have em2 : ∀ w1, Sx sc w w1 → fX10_layList w1 (nI s) 1 = (if gI w1 98 s = -1 then some (-6, w1) else (if ¬ iRm (gI w1 98 s) 2 = 0 then some (-2, w1) else fX10_layList_50 (nI s) FU w1 0)) := by
        intro w1 hw
        rw [em w1 hw, if_pos c, if_pos h7, if_pos (inB_nI (by omega) (by omega)), if_pos (inB_nI (by omega) (by omega)), ix_nI (by omega)]
      rcases HS.2 with ⟨h1, h2⟩ | ⟨d, n, hd, hn, h1, h2, h3, h4⟩
      · refine mk (-6) (fun _ => 0) (Or.inr (Or.inr rfl)) (by omega) ⟨w, ?_, fun z => absurd z (by decide)⟩ (fun w1 hw => ⟨w1, ?_, fun z => absurd z (by decide)⟩)
        · rw [ex, isThere_n h1, bI_some, if_pos rfl]
        · rw [em2 w1 hw, if_pos (by rw [(hw 98 s (sc_hi (by omega))).1]; exact h2)]
      · have e98 : ∀ w1, Sx sc w w1 → gI w1 98 s = nI n := fun w1 hw => (hw 98 s (sc_hi (by omega))).1.trans h3
        rw [isThere_s h1 hd, bI_some, if_neg (by decide), if_pos (inB_nI (by omega) (by omega))] at ex
        obtain ⟨v0, q0, q1, q2⟩ := sg0_L FU 0 w (by omega) (by rw [FU_eq]; omega) (fun j hj => by omega) (44 + 2 * s)
        have q3 : fX7_look w (44 + 2 * s) = fX7_look_20 v0 (44 + 2 * s) := q0
        rw [q3] at ex
        unfold fX7_look_20 at ex
        rw [(q2 _ _ (sc_mid (by omega) (by omega))).1, h2] at ex
        by_cases ho : n % 2 = 0
        · rw [if_neg (fun z => z ((odd_n hn).mpr ho))] at ex
          obtain ⟨m, rfl⟩ : ∃ m, n = 2 * m := ⟨n / 2, by omega⟩
          obtain ⟨r, w1, a0, a1⟩ := signsX_L (k := 44 + 2 * s) (m := m) (by omega) (fun i => gL w 100 (60 * s + i)) hn FU 0 v0 (by omega) (by rw [FU_eq]; omega) ((q2 _ _ (sc_mid (by omega) (by omega))).1.trans h2) (fun i hi => by
            rw [show 44 + 2 * s + 1 = 45 + 2 * s by omega, (q2 _ _ (sc_mid (by omega) (by omega))).2.1]; exact HS.1 i hi) (fun p hp => by omega) (fun j hj => q1 j hj)
          have a0' : fX7_look_33 (44 + 2 * s) FU v0 0 = some (r, w1) := a0
          rw [a0', bW_some] at ex
          have mm : ∀ w1, Sx sc w w1 → ∃ r w2, fX10_layList w1 (nI s) 1 = some (r, w2) ∧ ((r = 0 ∧ pok (fun i => gL w 100 (60 * s + i)) m ∧ ∀ j, j < 4 → gI w2 97 j = nI (pct (fun i => gL w 100 (60 * s + i)) j m)) ∨ (r = -2 ∧ ¬ pok (fun i => gL w 100 (60 * s + i)) m)) := by
            intro w1 hw
            obtain ⟨u0, p0, p1, p2⟩ := sm0_L FU 0 w1 (by omega) (by rw [FU_eq]; omega) (fun j hj => by omega) (nI s)
            have hu := hw.tr p2
            obtain ⟨r, w2, b0, b1⟩ := signsM_L (s := s) (m := m) hs (fun i => gL w 100 (60 * s + i)) hn FU 0 u0 (by omega) (by rw [FU_eq]; omega) (e98 _ hu) (fun i hi => (hu _ _ (sc_hi (by omega))).2.1) (fun p hp => by omega) (fun j hj => p1 j hj)
            refine ⟨r, w2, ?_, b1⟩
            rw [em2 w1 hw, e98 w1 hw, if_neg (nI_ne_m1 (by omega)), if_neg (fun z => z ((odd_n hn).mpr ho))]
            exact p0.trans b0
          rcases a1 with ⟨rfl, hp, hc⟩ | ⟨rfl, hp⟩
          · refine mk 0 (fun j => pct (fun i => gL w 100 (60 * s + i)) j m) (Or.inl rfl) (by have := pct_sum (fun i => gL w 100 (60 * s + i)) m; omega) ⟨w1, ex, fun _ => hc⟩ (fun w1 hw => ?_)
            obtain ⟨r, w2, b0, b1⟩ := mm w1 hw
            rcases b1 with ⟨rfl, _, b1⟩ | ⟨_, b1⟩
            · exact ⟨w2, b0, fun _ => b1⟩
            · exact absurd hp b1
          · refine mk (-2) (fun _ => 0) (Or.inr (Or.inl rfl)) (by omega) ⟨w1, ex, fun z => absurd z (by decide)⟩ (fun w1 hw => ?_)
            obtain ⟨r, w2, b0, b1⟩ := mm w1 hw
            rcases b1 with ⟨_, b1, _⟩ | ⟨rfl, b1⟩
            · exact absurd b1 hp
            · exact ⟨w2, b0, fun z => absurd z (by decide)⟩
        · rw [if_pos (fun z => ho ((odd_n hn).mp z)), bW_some] at ex
          refine mk (-2) (fun _ => 0) (Or.inr (Or.inl rfl)) (by omega) ⟨_, ex, fun z => absurd z (by decide)⟩ (fun w1 hw => ⟨w1, ?_, fun z => absurd z (by decide)⟩)
          rw [em2 w1 hw, e98 w1 hw, if_neg (nI_ne_m1 (by omega)), if_pos (fun z => ho ((odd_n hn).mp z))]
    · refine mk (-2) (fun _ => 0) (Or.inr (Or.inl rfl)) (by omega) ⟨w, ?_, fun z => absurd z (by decide)⟩ (fun w1 hw => ⟨w1, ?_, fun z => absurd z (by decide)⟩)
      · rw [ex, if_pos c, if_neg h7]
      · rw [em w1 hw, if_pos c, if_neg h7]
  · refine mk (-2) (fun _ => 0) (Or.inr (Or.inl rfl)) (by omega) ⟨w, ?_, fun z => absurd z (by decide)⟩ (fun w1 hw => ⟨w1, ?_, fun z => absurd z (by decide)⟩)
    · rw [ex, if_neg c]
    · rw [em w1 hw, if_neg c]
