/-! NUMBERS of the plain terms: everything small is nI of a natural number -/
theorem bI_some {β α : Type} (r : β) (k : β → Option α) : bI (some r) k = k r := rfl
theorem bW_some {β α : Type} (r : β) (w : HW) (k : β → HW → Option α) : bW (some (r, w)) k = k r w := rfl
theorem lT_eq {τ α : Type} (e : τ) (k : τ → Option α) : lT e k = k e := rfl
theorem ix_nI {n : Nat} (h : n < 2 ^ 31) : ix (nI n) = n := nI_clamp h
theorem inB_nI {n N : Nat} (h : n < N) (hN : N < 2 ^ 31) : inB (nI n) N = true := by
  simp only [inB, Bool.and_eq_true, decide_eq_true_eq]
  exact ⟨nI_pos (by omega), by rw [nI_clamp (by omega)]; exact h⟩
theorem n0 : (0 : Int32) = nI 0 := rfl
theorem n1 : (1 : Int32) = nI 1 := rfl
theorem n2 : (2 : Int32) = nI 2 := rfl
theorem n3 : (3 : Int32) = nI 3 := rfl
theorem FU_eq : FU = 99999 + 1 := rfl
theorem nI_or (a b : Nat) : nI a ||| nI b = nI (a ||| b) := fa_or a b
theorem nI_and (a b : Nat) : nI a &&& nI b = nI (a &&& b) := fa_and a b
theorem nI_bt {n : Nat} (i : Nat) (hi : i < 32) : bt (nI n) i = n.testBit i := by
  show (BitVec.ofNat 32 n).getLsbD i = n.testBit i
  rw [BitVec.getLsbD_ofNat]
  simp [hi]
theorem bt_1 (i : Nat) (hi : i < 32) : bt 1 i = decide (i = 0) := by
  rw [n1, nI_bt i hi]
  cases i with
  | zero => rfl
  | succ i => simp [Nat.testBit_succ]
theorem iSl_nI {a n : Nat} (hn : n < 32) : iSl (nI a) (nI n) = nI (a <<< n) := by
  apply b_ext
  intro i hi
  unfold iSl
  rw [b_shl n hn _ hi, nI_bt i hi, Nat.testBit_shiftLeft]
  by_cases h : n ≤ i
  · rw [nI_bt _ (by omega)]
  · simp [h]
theorem iSl_1 {n : Nat} (hn : n < 31) : iSl 1 (nI n) = nI (2 ^ n) := by
  rw [n1, iSl_nI (by omega), Nat.one_shiftLeft]
theorem iSl_2 {n : Nat} (hn : n < 31) : iSl 2 (nI n) = nI (2 ^ (n + 1)) := by
  rw [n2, iSl_nI (by omega), Nat.shiftLeft_eq, Nat.pow_succ, Nat.mul_comm]
/-- bit j of s, as 0 or 1 -/
def tB (s j : Nat) : Nat := (s.testBit j).toNat
theorem tB_01 (s j : Nat) : tB s j = 0 ∨ tB s j = 1 := by
  unfold tB; cases s.testBit j <;> simp
theorem tB_le (s j : Nat) : tB s j ≤ 1 := by have := tB_01 s j; omega
theorem tB_eq1 {s j : Nat} : tB s j = 1 ↔ s.testBit j = true := by
  unfold tB; cases s.testBit j <;> simp
theorem tB_eq0 {s j : Nat} : tB s j = 0 ↔ s.testBit j = false := by
  unfold tB; cases s.testBit j <;> simp
theorem iSr_bit {s j : Nat} (hs : s < 2 ^ 31) (hj : j < 32) : iSr (nI s) (nI j) &&& 1 = nI (tB s j) := by
  apply b_ext
  intro i hi
  rw [b_and, bt_1 i hi, nI_bt i hi]
  unfold iSr tB
  rw [b_sshr j hj _ hi]
  have h31 : s.testBit 31 = false := Nat.testBit_lt_two_pow hs
  cases i with
  | zero =>
    by_cases h : j + 0 < 32
    · rw [if_pos h, nI_bt _ h]; cases hsj : s.testBit j <;> simp [hsj]
    · omega
  | succ i => cases hsj : s.testBit j <;> simp [Nat.testBit_succ]
/-- s without t -/
def nd (s t : Nat) : Nat := s ^^^ (s &&& t)
theorem nd_bit (s t i : Nat) : (nd s t).testBit i = (s.testBit i && !t.testBit i) := by
  unfold nd
  rw [Nat.testBit_xor, Nat.testBit_and]
  cases s.testBit i <;> cases t.testBit i <;> rfl
theorem nI_nd (s t : Nat) : nI s &&& (nI t ^^^ (-1)) = nI (nd s t) := by
  apply b_ext
  intro i hi
  rw [b_and, b_xor, b_m1 i hi, nI_bt i hi, nI_bt i hi, nI_bt i hi, nd_bit]
  cases s.testBit i <;> cases t.testBit i <;> rfl
theorem nI_nd' (s t : Nat) : (nI t ^^^ (-1)) &&& nI s = nI (nd s t) := by
  rw [Int32.and_comm, nI_nd]
theorem nd_lt {s t n : Nat} (h : s < 2 ^ n) : nd s t < 2 ^ n := by
  refine Nat.lt_pow_two_of_testBit _ (fun i hi => ?_)
  rw [nd_bit, Nat.testBit_lt_two_pow (Nat.lt_of_lt_of_le h (Nat.pow_le_pow_right (by omega) hi))]
  rfl
/-- the set of those below n with p -/
def bS (p : Nat → Bool) : Nat → Nat
  | 0 => 0
  | n + 1 => if p n = true then bS p n ||| 2 ^ n else bS p n
theorem bS_bit (p : Nat → Bool) (n i : Nat) : (bS p n).testBit i = (decide (i < n) && p i) := by
  induction n with
  | zero => simp [bS]
  | succ n ih =>
    unfold bS
    by_cases hp : p n = true
    · rw [if_pos hp, Nat.testBit_or, ih, Nat.testBit_two_pow]
      by_cases e : n = i
      · subst e; simp [hp]
      · rcases Nat.lt_or_gt_of_ne e with g | g
        · have h1 : ¬ i < n := by omega
          have h2 : ¬ i < n + 1 := by omega
          simp [h1, h2, e]
        · have h1 : i < n := by omega
          have h2 : i < n + 1 := by omega
          simp [h1, h2, e]
    · rw [if_neg hp, ih]
      by_cases e : i = n
      · subst e; simp [hp]
      · by_cases g : i < n
        · have h2 : i < n + 1 := by omega
          simp [g, h2]
        · have h2 : ¬ i < n + 1 := by omega
          simp [g, h2]
theorem bS_lt (p : Nat → Bool) (n : Nat) : bS p n < 2 ^ n := by
  refine Nat.lt_pow_two_of_testBit _ (fun i hi => ?_)
  rw [bS_bit]
  have : ¬ i < n := by omega
  simp [this]
theorem bS_lt31 (p : Nat → Bool) {n : Nat} (h : n ≤ 31) : bS p n < 2 ^ 31 := Nat.lt_of_lt_of_le (bS_lt p n) (Nat.pow_le_pow_right (by omega) h)
theorem bS_congr {p q : Nat → Bool} {n : Nat} (h : ∀ i, i < n → p i = q i) : bS p n = bS q n := by
  apply Nat.eq_of_testBit_eq
  intro i
  rw [bS_bit, bS_bit]
  by_cases hi : i < n
  · rw [h i hi]
  · simp [hi]
theorem bit_ext {a b n : Nat} (ha : a < 2 ^ n) (hb : b < 2 ^ n) (h : ∀ i, i < n → a.testBit i = b.testBit i) : a = b := by
  apply Nat.eq_of_testBit_eq
  intro i
  by_cases hi : i < n
  · exact h i hi
  · rw [Nat.testBit_lt_two_pow (Nat.lt_of_lt_of_le ha (Nat.pow_le_pow_right (by omega) (by omega))), Nat.testBit_lt_two_pow (Nat.lt_of_lt_of_le hb (Nat.pow_le_pow_right (by omega) (by omega)))]
theorem or_lt {a b n : Nat} (ha : a < 2 ^ n) (hb : b < 2 ^ n) : a ||| b < 2 ^ n := Nat.or_lt_two_pow ha hb
/-- how many bits a set below 2 ^ n has -/
def cB (s : Nat) : Nat → Nat
  | 0 => 0
  | n + 1 => cB s n + tB s n
theorem cB_le (s n : Nat) : cB s n ≤ n := by
  induction n with
  | zero => exact Nat.le_refl 0
  | succ n ih => have := tB_le s n; unfold cB; omega
/-- an answer that may be 'none' -/
def aI (n : Nat) : Int32 := if n = 0 then -1 else nI (n - 1)
theorem aI_0 : aI 0 = -1 := rfl
theorem aI_s (n : Nat) : aI (n + 1) = nI n := by simp [aI]
theorem nI_ne_m1 {n : Nat} (h : n < 2 ^ 31) : ¬ nI n = -1 := by
  intro e
  have h1 := nI_pos' h
  rw [e] at h1
  exact absurd h1 (by decide)
theorem aI_eq {a b : Nat} (ha : a < 2 ^ 31) (hb : b < 2 ^ 31) : aI a = aI b ↔ a = b := by
  cases a with
  | zero =>
    cases b with
    | zero => simp
    | succ b => rw [aI_0, aI_s]; exact ⟨fun h => absurd h.symm (nI_ne_m1 (by omega)), fun h => by omega⟩
  | succ a =>
    cases b with
    | zero => rw [aI_0, aI_s]; exact ⟨fun h => absurd h (nI_ne_m1 (by omega)), fun h => by omega⟩
    | succ b => rw [aI_s, aI_s, nI_eq (by omega) (by omega)]; omega
theorem aI_m1 {a : Nat} (ha : a < 2 ^ 31) : aI a = -1 ↔ a = 0 := by
  rw [← aI_0, aI_eq ha (by omega)]
theorem aI_lt0 {a : Nat} (ha : a < 2 ^ 31) : aI a < 0 ↔ a = 0 := by
  cases a with
  | zero => rw [aI_0]; exact ⟨fun _ => rfl, fun _ => by decide⟩
  | succ a => rw [aI_s]; exact ⟨fun h => absurd h (nI_pos (by omega)), fun h => by omega⟩
theorem iMx_nI {a b : Nat} (ha : a < 2 ^ 31) (hb : b < 2 ^ 31) : iMx (nI a) (nI b) = nI (max a b) := by
  unfold iMx
  by_cases h : a < b
  · rw [if_pos ((nI_ltI ha hb).mpr h), Nat.max_eq_right (by omega)]
  · rw [if_neg (fun z => h ((nI_ltI ha hb).mp z)), Nat.max_eq_left (by omega)]
theorem iMn_nI {a b : Nat} (ha : a < 2 ^ 31) (hb : b < 2 ^ 31) : iMn (nI a) (nI b) = nI (min a b) := by
  unfold iMn
  by_cases h : b < a
  · rw [if_pos ((nI_ltI hb ha).mpr h), Nat.min_eq_right (by omega)]
  · rw [if_neg (fun z => h ((nI_ltI hb ha).mp z)), Nat.min_eq_left (by omega)]
theorem nI_subI {a b : Nat} (h : b ≤ a) : nI a - nI b = nI (a - b) := pk_sub h
/-- lcmp of two ints made long -/
theorem lg_i (x y : Int32) : (lg_cmp x.toInt64 y.toInt64 < 0 ↔ x < y) ∧ (0 < lg_cmp x.toInt64 y.toInt64 ↔ y < x) := by
  have e1 := fa_wide_lt x y
  have e2 := fa_wide_lt y x
  have e3 := fa_wide_eq x y
  unfold lg_cmp
  by_cases h1 : x.toInt64 > y.toInt64
  · rw [if_pos h1]
    have h2 : y < x := e2.mp h1
    refine ⟨⟨fun h => absurd h (by decide), fun h => ?_⟩, ⟨fun _ => h2, fun _ => by decide⟩⟩
    rw [fa_lt] at h h2; omega
  · rw [if_neg h1]
    by_cases h2 : x.toInt64 = y.toInt64
    · rw [if_pos h2]
      have h3 := e3.mp h2
      subst h3
      exact ⟨⟨fun h => absurd h (by decide), fun h => by rw [fa_lt] at h; omega⟩, ⟨fun h => absurd h (by decide), fun h => by rw [fa_lt] at h; omega⟩⟩
    · rw [if_neg h2]
      have h3 : ¬ x = y := fun z => h2 (e3.mpr z)
      have h4 : ¬ y < x := fun z => h1 (e2.mpr z)
      have h5 : x < y := by
        rcases fa_three x y with h | h | h
        · exact h
        · exact absurd h h3
        · exact absurd h h4
      exact ⟨⟨fun _ => h5, fun _ => by decide⟩, ⟨fun h => absurd h (by decide), fun h => absurd h h4⟩⟩
theorem in_ok (w : HW) (x a b : Int32) : fX10_in w x.toInt64 a.toInt64 b.toInt64 = some (if a ≤ x ∧ x ≤ b then 1 else 0) := by
  unfold fX10_in
  by_cases h1 : x < a
  · have h2 : ¬ a ≤ x := fun z => by rw [fa_le] at z; rw [fa_lt] at h1; omega
    rw [if_neg (fun z => z ((lg_i x a).1.mpr h1)), if_neg (fun z => h2 z.1)]
  · rw [if_pos (fun z => h1 ((lg_i x a).1.mp z))]
    have h1' : a ≤ x := Int32.not_lt.mp h1
    by_cases h2 : b < x
    · have h3 : ¬ x ≤ b := fun z => by rw [fa_le] at z; rw [fa_lt] at h2; omega
      rw [if_neg (fun z => z ((lg_i x b).2.mpr h2)), if_neg (fun z => h3 z.2)]
    · rw [if_pos (fun z => h2 ((lg_i x b).2.mp z)), if_pos ⟨h1', Int32.not_lt.mp h2⟩]
theorem in_0 (w : HW) (x b : Int32) : fX10_in w x.toInt64 0 b.toInt64 = some (if 0 ≤ x ∧ x ≤ b then 1 else 0) := in_ok w x 0 b
