/-! THE CAMP as numbers: K i is what the reference's row 'world' holds at i (the bill that a bill is after: one more, 0 for none) -/
def dA (e : Nat) : Nat := if 1000 ≤ e then e - 1000 else e % 100
def bC (e : Nat) : Nat := if 1000 ≤ e then 0 else e / 100 + 1
def WF (K : Nat → Nat) : Prop :=
  (K 0 ≤ 14 ∧ K 1 ≤ 9 ∧ K 2 ≤ 9 ∧ K 3 ≤ 10 ∧ K 4 ≤ 8 ∧ K 5 ≤ 8 ∧ K 6 ≤ 20 ∧ K 7 ≤ 800 ∧ K 8 < 2 ^ K 0) ∧
  (K 7 = 0 → K 0 = 0 ∧ K 1 = 0 ∧ K 2 = 0 ∧ K 3 = 0 ∧ K 4 = 0 ∧ K 5 = 0 ∧ K 6 = 0) ∧ (0 < K 7 → 1 ≤ K 0 ∧ 1 ≤ K 2) ∧
  (∀ a, a < K 4 → K (9 + 3 * a) ≤ 1 ∧ K (10 + 3 * a) ≤ K (11 + 3 * a) ∧ K (11 + 3 * a) < K 0) ∧
  (∀ b, b < K 5 → K (33 + 3 * b) ≤ 1 ∧ K (34 + 3 * b) ≤ 99 ∧ K (35 + 3 * b) ≤ b) ∧
  (∀ i, i < K 6 → dA (K (57 + i)) < K 0 ∧ bC (K (57 + i)) ≤ K 5 ∧ K (57 + i) < 2000 ∧ K (57 + i) = if bC (K (57 + i)) = 0 then 1000 + dA (K (57 + i)) else 100 * (bC (K (57 + i)) - 1) + dA (K (57 + i))) ∧
  (∀ i j, i < K 6 → j < K 6 → i ≠ j → dA (K (57 + i)) ≠ dA (K (57 + j)) ∧ (bC (K (57 + i)) = bC (K (57 + j)) → bC (K (57 + i)) = 0))
theorem WF.b {K : Nat → Nat} (W : WF K) : K 0 ≤ 14 ∧ K 1 ≤ 9 ∧ K 2 ≤ 9 ∧ K 3 ≤ 10 ∧ K 4 ≤ 8 ∧ K 5 ≤ 8 ∧ K 6 ≤ 20 ∧ K 7 ≤ 800 := ⟨W.1.1, W.1.2.1, W.1.2.2.1, W.1.2.2.2.1, W.1.2.2.2.2.1, W.1.2.2.2.2.2.1, W.1.2.2.2.2.2.2.1, W.1.2.2.2.2.2.2.2.1⟩
theorem WF.mk {K : Nat → Nat} (W : WF K) : K 8 < 2 ^ K 0 := W.1.2.2.2.2.2.2.2.2
theorem WF.aug {K : Nat → Nat} (W : WF K) {a : Nat} (h : a < K 4) : K (9 + 3 * a) ≤ 1 ∧ K (10 + 3 * a) ≤ K (11 + 3 * a) ∧ K (11 + 3 * a) < K 0 := W.2.2.2.1 a h
theorem WF.bil {K : Nat → Nat} (W : WF K) {b : Nat} (h : b < K 5) : K (33 + 3 * b) ≤ 1 ∧ K (34 + 3 * b) ≤ 99 ∧ K (35 + 3 * b) ≤ b := W.2.2.2.2.1 b h
theorem WF.act {K : Nat → Nat} (W : WF K) {i : Nat} (h : i < K 6) : dA (K (57 + i)) < K 0 ∧ bC (K (57 + i)) ≤ K 5 ∧ K (57 + i) < 2000 := ⟨(W.2.2.2.2.2.1 i h).1, (W.2.2.2.2.2.1 i h).2.1, (W.2.2.2.2.2.1 i h).2.2.1⟩
theorem WF.act2 {K : Nat → Nat} (W : WF K) {i : Nat} (h : i < K 6) : K (57 + i) = if bC (K (57 + i)) = 0 then 1000 + dA (K (57 + i)) else 100 * (bC (K (57 + i)) - 1) + dA (K (57 + i)) := (W.2.2.2.2.2.1 i h).2.2.2
theorem WF.two {K : Nat → Nat} (W : WF K) {i j : Nat} (hi : i < K 6) (hj : j < K 6) (h : i ≠ j) : dA (K (57 + i)) ≠ dA (K (57 + j)) ∧ (bC (K (57 + i)) = bC (K (57 + j)) → bC (K (57 + i)) = 0) := W.2.2.2.2.2.2 i j hi hj h
theorem WF.day {K : Nat → Nat} (W : WF K) : 0 < K 0 ↔ 0 < K 7 := by
  have h1 := W.2.1
  have h2 := W.2.2.1
  omega
/-- the class's object at k holds the camp K -/
def CC (w : HW) (k : Nat) (K : Nat → Nat) : Prop :=
  isC k = true ∧ (gI w k 0 = nI (K 7) ∧ gI w k 1 = nI (K 0) ∧ gI w k 2 = nI (K 1) ∧ gI w k 3 = nI (K 2) ∧ gI w k 4 = nI (K 3) ∧ gI w k 5 = nI (K 8) ∧ gI w k 6 = nI (K 4) ∧ gI w k 10 = nI (K 5) ∧ gI w k 14 = nI (K 6)) ∧
  (∀ a, a < K 4 → gI w (k + 1) a = nI (K (9 + 3 * a)) ∧ gI w (k + 2) a = nI (K (10 + 3 * a)) ∧ gI w (k + 3) a = nI (K (11 + 3 * a))) ∧
  (∀ b, b < K 5 → gI w (k + 4) b = nI (K (33 + 3 * b)) ∧ gI w (k + 5) b = nI (K (34 + 3 * b)) ∧ gI w (k + 6) b = aI (K (35 + 3 * b))) ∧
  (∀ i, i < K 6 → gI w (k + 7) i = nI (dA (K (57 + i))) ∧ gI w (k + 8) i = aI (bC (K (57 + i))))
section CCP
variable {w : HW} {k : Nat} {K : Nat → Nat}
theorem CC.c0 (H : CC w k K) : gI w k 0 = nI (K 7) := H.2.1.1
theorem CC.c1 (H : CC w k K) : gI w k 1 = nI (K 0) := H.2.1.2.1
theorem CC.c2 (H : CC w k K) : gI w k 2 = nI (K 1) := H.2.1.2.2.1
theorem CC.c3 (H : CC w k K) : gI w k 3 = nI (K 2) := H.2.1.2.2.2.1
theorem CC.c4 (H : CC w k K) : gI w k 4 = nI (K 3) := H.2.1.2.2.2.2.1
theorem CC.c5 (H : CC w k K) : gI w k 5 = nI (K 8) := H.2.1.2.2.2.2.2.1
theorem CC.c6 (H : CC w k K) : gI w k 6 = nI (K 4) := H.2.1.2.2.2.2.2.2.1
theorem CC.c10 (H : CC w k K) : gI w k 10 = nI (K 5) := H.2.1.2.2.2.2.2.2.2.1
theorem CC.c14 (H : CC w k K) : gI w k 14 = nI (K 6) := H.2.1.2.2.2.2.2.2.2.2
theorem CC.aug (H : CC w k K) {a : Nat} (h : a < K 4) : gI w (k + 1) a = nI (K (9 + 3 * a)) ∧ gI w (k + 2) a = nI (K (10 + 3 * a)) ∧ gI w (k + 3) a = nI (K (11 + 3 * a)) := H.2.2.1 a h
theorem CC.bil (H : CC w k K) {b : Nat} (h : b < K 5) : gI w (k + 4) b = nI (K (33 + 3 * b)) ∧ gI w (k + 5) b = nI (K (34 + 3 * b)) ∧ gI w (k + 6) b = aI (K (35 + 3 * b)) := H.2.2.2.1 b h
theorem CC.act (H : CC w k K) {i : Nat} (h : i < K 6) : gI w (k + 7) i = nI (dA (K (57 + i))) ∧ gI w (k + 8) i = aI (bC (K (57 + i))) := H.2.2.2.2 i h
end CCP
/-- 1 or 0 -/
def b01 (b : Bool) : Int32 := if b = true then 1 else 0
theorem b01_t : b01 true = 1 := rfl
theorem b01_f : b01 false = 0 := rfl
theorem b01_0 (b : Bool) : (b01 b = 0) = (b = false) := by cases b <;> simp [b01]
theorem b01_1 (b : Bool) : (b01 b = 1) = (b = true) := by cases b <;> simp [b01]
theorem zB_b01 (b : Bool) : zB (b01 b) = true := by cases b <;> rfl
theorem if_b01 {α : Type} (b : Bool) (x y : α) : (if ¬ b01 b = 0 then x else y) = if b = true then x else y := by cases b <;> rfl
theorem if_b01' {α : Type} (b : Bool) (x y : α) : (if b01 b = 0 then x else y) = if b = true then y else x := by cases b <;> rfl
theorem if_b011 {α : Type} (b : Bool) (x y : α) : (if b01 b = 1 then x else y) = if b = true then x else y := by cases b <;> rfl
theorem some_b01 (b : Bool) : (if b = true then some (1 : Int32) else some 0) = some (b01 b) := by cases b <;> rfl
theorem some_b01' (b : Bool) : (if b = true then some (0 : Int32) else some 1) = some (b01 (!b)) := by cases b <;> rfl
theorem holds_ok (w : HW) {s j : Nat} (hs : s < 2 ^ 31) (hj : j < 32) : fX9_holds w (nI s) (nI j) = some (b01 (s.testBit j)) := by
  unfold fX9_holds
  rw [iSr_bit hs hj]
  unfold tB
  cases s.testBit j <;> rfl
/-- days from F to L -/
def dys (F L : Nat) : Nat := 2 ^ (L + 1) - 2 ^ F
theorem dys_bit {F L : Nat} (h : F ≤ L) (i : Nat) : (dys F L).testBit i = (decide (F ≤ i) && decide (i ≤ L)) := by
  have e : dys F L = (2 ^ (L + 1 - F) - 1) <<< F := by
    unfold dys
    rw [Nat.shiftLeft_eq, Nat.sub_mul, ← Nat.pow_add, Nat.one_mul]
    congr 2
    omega
  rw [e, Nat.testBit_shiftLeft, Nat.testBit_two_pow_sub_one]
  by_cases h1 : F ≤ i
  · simp [h1]; omega
  · simp [h1]
theorem dys_lt {F L n : Nat} (h : L < n) : dys F L < 2 ^ n := by
  unfold dys
  have h1 : 2 ^ (L + 1) ≤ 2 ^ n := Nat.pow_le_pow_right (by omega) (by omega)
  have h2 : 0 < 2 ^ F := Nat.two_pow_pos F
  have h3 : 0 < 2 ^ (L + 1) := Nat.two_pow_pos (L + 1)
  omega
/-- days that those below n with p watch -/
def skF (K : Nat → Nat) (p : Nat → Bool) : Nat → Nat
  | 0 => 0
  | n + 1 => if p n = true then skF K p n ||| dys (K (10 + 3 * n)) (K (11 + 3 * n)) else skF K p n
theorem skF_lt {K : Nat → Nat} (W : WF K) (p : Nat → Bool) : ∀ n, n ≤ K 4 → skF K p n < 2 ^ K 0 := by
  intro n
  induction n with
  | zero => intro _; exact Nat.two_pow_pos _
  | succ n ih =>
    intro h
    have := W.aug (a := n) (by omega)
    unfold skF
    split
    · exact or_lt (ih (by omega)) (dys_lt this.2.2)
    · exact ih (by omega)
theorem skF_congr {K : Nat → Nat} {p q : Nat → Bool} : ∀ n, (∀ i, i < n → p i = q i) → skF K p n = skF K q n := by
  intro n
  induction n with
  | zero => intro _; rfl
  | succ n ih => intro h; unfold skF; rw [ih (fun i hi => h i (by omega)), h n (by omega)]
theorem pow31 {n : Nat} (h : n ≤ 31) : 2 ^ n ≤ 2 ^ 31 := Nat.pow_le_pow_right (by omega) h
theorem skF_31 {K : Nat → Nat} (W : WF K) (p : Nat → Bool) {n : Nat} (h : n ≤ K 4) : skF K p n < 2 ^ 31 := by
  have h1 := skF_lt W p n h
  have h2 := pow31 (n := K 0) (by have := W.b; omega)
  omega
def sA (K : Nat → Nat) (s : Nat) : Nat := bS (fun a => K (9 + 3 * a) == s) (K 4)
def sB (K : Nat → Nat) (s : Nat) : Nat := bS (fun b => K (33 + 3 * b) == s) (K 5)
def sky (K : Nat → Nat) (s : Nat) : Nat := skF K (fun a => K (9 + 3 * a) == s) (K 4)
/-- free days of a side -/
def clr (K : Nat → Nat) (s : Nat) : Nat := nd (nd (2 ^ K 0 - 1) (K 8)) (sky K (1 - s))
/-- the bills that one is after, from the first of them (one more) on -/
def ndF (K : Nat → Nat) : Nat → Nat → Nat
  | 0, _ => 0
  | _ + 1, 0 => 0
  | f + 1, c + 1 => 2 ^ c ||| ndF K f (K (35 + 3 * c))
def ned (K : Nat → Nat) (b : Nat) : Nat := ndF K 9 (K (35 + 3 * b))
theorem one_sub {s : Nat} (hs : s ≤ 1) : (1 : Int32) - nI s = nI (1 - s) := nI_subI hs
section XC
variable {w : HW} {k : Nat} {K : Nat → Nat}
theorem X0_isTold_ok (H : CC w k K) (W : WF K) : fX0_isTold w k = some (b01 (decide (0 < K 7))) := by
  have := W.b
  unfold fX0_isTold
  rw [H.c0]
  by_cases h : 0 < K 7
  · rw [if_pos (show (0 : Int32) < nI (K 7) from nI_lt h (by omega))]; simp [h, b01]
  · rw [if_neg (show ¬ (0 : Int32) < nI (K 7) from nI_nlt (a := 0) (by omega) (by omega))]; simp [h, b01]
theorem in_dec {x : Int32} {n : Nat} (hn : n < 2 ^ 31) (y : Int32) (hy : y = nI n) : (if ¬ x < 0 then (if x < y then some (1 : Int32) else some 0) else some 0) = some (b01 (decide (0 ≤ x ∧ x < nI n))) := by
  subst hy
  by_cases h1 : x < 0
  · have h2 : ¬ 0 ≤ x := fun z => by rw [fa_le] at z; rw [fa_lt] at h1; omega
    rw [if_neg (fun z => z h1)]; simp [h2, b01]
  · have h2 : 0 ≤ x := Int32.not_lt.mp h1
    rw [if_pos h1]
    by_cases h3 : x < nI n <;> simp [h3, h2, b01]
theorem X0_hasDay_ok (H : CC w k K) (W : WF K) (x : Int32) : fX0_hasDay w k x = some (b01 (decide (0 ≤ x ∧ x < nI (K 0)))) := by
  have := W.b
  unfold fX0_hasDay; exact in_dec (by omega) _ H.c1
theorem X0_hasAugur_ok (H : CC w k K) (W : WF K) (x : Int32) : fX0_hasAugur w k x = some (b01 (decide (0 ≤ x ∧ x < nI (K 4)))) := by
  have := W.b
  unfold fX0_hasAugur; exact in_dec (by omega) _ H.c6
theorem X0_hasBill_ok (H : CC w k K) (W : WF K) (x : Int32) : fX0_hasBill w k x = some (b01 (decide (0 ≤ x ∧ x < nI (K 5)))) := by
  have := W.b
  unfold fX0_hasBill; exact in_dec (by omega) _ H.c10
theorem X9_isChoice_ok (w : HW) (x : Int32) : fX9_isChoice w x = some (b01 (decide (x = 0 ∨ x = 1))) := by
  unfold fX9_isChoice
  by_cases h : x = 0
  · simp [h, b01]
  · by_cases h1 : x = 1 <;> simp [h, h1, b01]
theorem X0_hasSide_ok (H : CC w k K) (W : WF K) (x : Int32) : fX0_hasSide w k x = some (b01 (decide (0 < K 7) && decide (x = 0 ∨ x = 1))) := by
  unfold fX0_hasSide
  rw [X0_isTold_ok H W, bI_some, if_b01, X9_isChoice_ok, bI_some, if_b01, some_b01]
  cases decide (0 < K 7) <;> rfl
theorem X0_allDays_ok (H : CC w k K) (W : WF K) : fX0_allDays w k = some (nI (2 ^ K 0 - 1)) := by
  have := W.b
  unfold fX0_allDays
  rw [H.c1, iSl_1 (by omega), n1, nI_subI Nat.one_le_two_pow]
theorem X0_allBills_ok (H : CC w k K) (W : WF K) : fX0_allBills w k = some (nI (2 ^ K 5 - 1)) := by
  have := W.b
  unfold fX0_allBills
  rw [H.c10, iSl_1 (by omega), n1, nI_subI Nat.one_le_two_pow]
theorem X0_augursOf_L (H : CC w k K) (W : WF K) {s : Nat} (hs : s < 2 ^ 31) : ∀ F i, i ≤ K 4 → K 4 - i < F → fX0_augursOf_4 w k (nI s) F (nI (bS (fun a => K (9 + 3 * a) == s) i)) (nI i) = some (nI (sA K s)) := by
  have hb := W.b
  intro F
  induction F with
  | zero => intro i h1 h2; omega
  | succ F ih =>
    intro i h1 h2
    rw [fX0_augursOf_4, H.c6]
    by_cases hi : i < K 4
    · have ha := W.aug hi
      have e := ih (i + 1) (by omega) (by omega)
      rw [bS] at e
      rw [if_pos (nI_lt hi (by omega)), if_pos (inB_nI (by omega) (by omega)), ix_nI (by omega), (H.aug hi).1, lT_eq, iSl_1 (by omega), nI_or, nI_1]
      by_cases hq : K (9 + 3 * i) = s
      · rw [if_pos (by rw [hq])]; simpa [hq] using e
      · rw [if_neg (fun z => hq ((nI_eq (by omega) hs).mp z))]; simpa [hq] using e
    · have e : i = K 4 := by omega
      rw [if_neg (nI_nlt (by omega) (by omega)), e]; rfl
theorem X0_augursOf_ok (H : CC w k K) (W : WF K) {s : Nat} (hs : s < 2 ^ 31) : fX0_augursOf w k (nI s) = some (nI (sA K s)) := by
  have := W.b
  exact X0_augursOf_L H W hs FU 0 (by omega) (by rw [FU_eq]; omega)
theorem X0_billsOf_L (H : CC w k K) (W : WF K) {s : Nat} (hs : s < 2 ^ 31) : ∀ F i, i ≤ K 5 → K 5 - i < F → fX0_billsOf_4 w k (nI s) F (nI (bS (fun b => K (33 + 3 * b) == s) i)) (nI i) = some (nI (sB K s)) := by
  have hb := W.b
  intro F
  induction F with
  | zero => intro i h1 h2; omega
  | succ F ih =>
    intro i h1 h2
    rw [fX0_billsOf_4, H.c10]
    by_cases hi : i < K 5
    · have ha := W.bil hi
      have e := ih (i + 1) (by omega) (by omega)
      rw [bS] at e
      rw [if_pos (nI_lt hi (by omega)), if_pos (inB_nI (by omega) (by omega)), ix_nI (by omega), (H.bil hi).1, lT_eq, iSl_1 (by omega), nI_or, nI_1]
      by_cases hq : K (33 + 3 * i) = s
      · rw [if_pos (by rw [hq])]; simpa [hq] using e
      · rw [if_neg (fun z => hq ((nI_eq (by omega) hs).mp z))]; simpa [hq] using e
    · have e : i = K 5 := by omega
      rw [if_neg (nI_nlt (by omega) (by omega)), e]; rfl
theorem X0_billsOf_ok (H : CC w k K) (W : WF K) {s : Nat} (hs : s < 2 ^ 31) : fX0_billsOf w k (nI s) = some (nI (sB K s)) := by
  have := W.b
  exact X0_billsOf_L H W hs FU 0 (by omega) (by rw [FU_eq]; omega)
theorem X0_daysOfAugur_ok (H : CC w k K) (W : WF K) {a : Nat} (h : a < K 4) : fX0_daysOfAugur w k (nI a) = some (nI (dys (K (10 + 3 * a)) (K (11 + 3 * a)))) := by
  have hb := W.b
  have ha := W.aug h
  unfold fX0_daysOfAugur
  rw [if_pos (inB_nI (by omega) (by omega)), if_pos (inB_nI (by omega) (by omega)), ix_nI (by omega), (H.aug h).2.1, (H.aug h).2.2, iSl_2 (by omega), iSl_1 (by omega), nI_subI (Nat.pow_le_pow_right (by omega) (by omega))]
  rfl
theorem X0_skyOf_L (H : CC w k K) (W : WF K) {s : Nat} (hs : s < 2 ^ 31) : ∀ F i, i ≤ K 4 → K 4 - i < F → fX0_skyOf_4 w k (nI s) F (nI (skF K (fun a => s.testBit a) i)) (nI i) = some (nI (skF K (fun a => s.testBit a) (K 4))) := by
  have hb := W.b
  intro F
  induction F with
  | zero => intro i h1 h2; omega
  | succ F ih =>
    intro i h1 h2
    rw [fX0_skyOf_4, H.c6]
    by_cases hi : i < K 4
    · have e := ih (i + 1) (by omega) (by omega)
      rw [skF] at e
      rw [if_pos (nI_lt hi (by omega)), holds_ok w hs (by omega), bI_some, if_b01, X0_daysOfAugur_ok H W hi, bI_some, lT_eq, nI_or, nI_1]
      cases hq : s.testBit i <;> simpa [hq] using e
    · have e : i = K 4 := by omega
      rw [if_neg (nI_nlt (by omega) (by omega)), e]
theorem X0_skyOf_ok (H : CC w k K) (W : WF K) {s : Nat} (hs : s < 2 ^ 31) : fX0_skyOf w k (nI s) = some (nI (skF K (fun a => s.testBit a) (K 4))) := by
  have := W.b
  exact X0_skyOf_L H W hs FU 0 (by omega) (by rw [FU_eq]; omega)
theorem skF_sA {K : Nat → Nat} (s : Nat) : skF K (fun a => (sA K s).testBit a) (K 4) = sky K s := by
  refine skF_congr _ (fun i hi => ?_)
  unfold sA
  rw [bS_bit]
  simp [hi]
theorem X0_sky_ok (H : CC w k K) (W : WF K) {s : Nat} : fX0_skyOf w k (nI (sA K s)) = some (nI (sky K s)) := by
  have := W.b
  rw [X0_skyOf_ok H W (show sA K s < 2 ^ 31 from bS_lt31 _ (by omega)), skF_sA]
theorem X0_clearDays_ok (H : CC w k K) (W : WF K) {s : Nat} (hs : s ≤ 1) : fX0_clearDays w k (nI s) = some (nI (clr K s)) := by
  unfold fX0_clearDays
  rw [X0_allDays_ok H W, bI_some, one_sub hs, X0_augursOf_ok H W (by omega), bI_some, X0_sky_ok H W, bI_some, H.c5, nI_nd, nI_nd]
  rfl
theorem X0_augursOn_L (H : CC w k K) (W : WF K) {d : Nat} (hd : d < 31) : ∀ F i, i ≤ K 4 → K 4 - i < F → fX0_augursOn_4 w k (nI d) F (nI (bS (fun a => (dys (K (10 + 3 * a)) (K (11 + 3 * a))).testBit d) i)) (nI i) = some (nI (bS (fun a => (dys (K (10 + 3 * a)) (K (11 + 3 * a))).testBit d) (K 4))) := by
  have hb := W.b
  intro F
  induction F with
  | zero => intro i h1 h2; omega
  | succ F ih =>
    intro i h1 h2
    rw [fX0_augursOn_4, H.c6]
    by_cases hi : i < K 4
    · have ha := W.aug hi
      have e := ih (i + 1) (by omega) (by omega)
      rw [bS] at e
      rw [if_pos (nI_lt hi (by omega)), X0_daysOfAugur_ok H W hi, bI_some, holds_ok w (dys_lt (by omega)) (by omega), bI_some, if_b01, lT_eq, iSl_1 (by omega), nI_or, nI_1]
      cases hq : (dys (K (10 + 3 * i)) (K (11 + 3 * i))).testBit d <;> simpa [hq] using e
    · have e : i = K 4 := by omega
      rw [if_neg (nI_nlt (by omega) (by omega)), e]
theorem X0_augursOn_ok (H : CC w k K) (W : WF K) {d : Nat} (hd : d < 31) : fX0_augursOn w k (nI d) = some (nI (bS (fun a => (dys (K (10 + 3 * a)) (K (11 + 3 * a))).testBit d) (K 4))) := by
  have := W.b
  exact X0_augursOn_L H W hd FU 0 (by omega) (by rw [FU_eq]; omega)
/-- the worth of those below n in a set -/
def woF (K : Nat → Nat) (p : Nat → Bool) : Nat → Nat
  | 0 => 0
  | n + 1 => if p n = true then woF K p n + K (34 + 3 * n) else woF K p n
theorem woF_le {K : Nat → Nat} (W : WF K) (p : Nat → Bool) : ∀ n, n ≤ K 5 → woF K p n ≤ 99 * n := by
  intro n
  induction n with
  | zero => intro _; exact Nat.le_refl _
  | succ n ih =>
    intro h
    have := W.bil (b := n) (by omega)
    have := ih (by omega)
    unfold woF
    split <;> omega
theorem woF_congr {K : Nat → Nat} {p q : Nat → Bool} : ∀ n, (∀ i, i < n → p i = q i) → woF K p n = woF K q n := by
  intro n
  induction n with
  | zero => intro _; rfl
  | succ n ih => intro h; unfold woF; rw [ih (fun i hi => h i (by omega)), h n (by omega)]
theorem X0_worthOf_L (H : CC w k K) (W : WF K) {s : Nat} (hs : s < 2 ^ 31) : ∀ F i, i ≤ K 5 → K 5 - i < F → fX0_worthOf_4 w k (nI s) F (nI (woF K (fun a => s.testBit a) i)) (nI i) = some (nI (woF K (fun a => s.testBit a) (K 5))) := by
  have hb := W.b
  intro F
  induction F with
  | zero => intro i h1 h2; omega
  | succ F ih =>
    intro i h1 h2
    rw [fX0_worthOf_4, H.c10]
    by_cases hi : i < K 5
    · have e := ih (i + 1) (by omega) (by omega)
      rw [woF] at e
      rw [if_pos (nI_lt hi (by omega)), holds_ok w hs (by omega), bI_some, if_b01, if_pos (inB_nI (by omega) (by omega)), ix_nI (by omega), (H.bil hi).2.1, lT_eq, nI_add, nI_1]
      cases hq : s.testBit i <;> simpa [hq] using e
    · have e : i = K 5 := by omega
      rw [if_neg (nI_nlt (by omega) (by omega)), e]
theorem X0_worthOf_ok (H : CC w k K) (W : WF K) {s : Nat} (hs : s < 2 ^ 31) : fX0_worthOf w k (nI s) = some (nI (woF K (fun a => s.testBit a) (K 5))) := by
  have := W.b
  exact X0_worthOf_L H W hs FU 0 (by omega) (by rw [FU_eq]; omega)
theorem X0_firstHungryDay_ok (H : CC w k K) (W : WF K) : fX0_firstHungryDay w k = some (nI (min (K 0) (K 2 - K 1))) := by
  have hb := W.b
  unfold fX0_firstHungryDay
  have e : iMx 0 (nI (K 2) - nI (K 1)) = nI (K 2 - K 1) := by
    by_cases h : K 1 ≤ K 2
    · rw [nI_subI h, n0, iMx_nI (by omega) (by omega), Nat.zero_max]
    · unfold iMx
      rw [if_neg, show K 2 - K 1 = 0 by omega]
      · rfl
      · have h1 := pk_sneg (a := K 2) (b := K 1) (by omega) (by omega)
        intro z
        rw [fa_lt] at z h1
        omega
  rw [H.c1, H.c2, H.c3, e, iMn_nI (by omega) (by omega)]
end XC
theorem aI_pred {b : Nat} (h : b < 2 ^ 31) : nI b - 1 = aI b := by
  cases b with
  | zero => rfl
  | succ b => rw [nI_pred, aI_s]
theorem pk_back {j : Nat} (h : j < 2 ^ 31) : nI j + (-1) = aI j := by
  cases j with
  | zero => rfl
  | succ j => rw [pk_m1, aI_s]
section XD
variable {w : HW} {k : Nat} {K : Nat → Nat}
theorem ndF_lt {K : Nat → Nat} : ∀ (f c n : Nat), c ≤ n → (∀ b, b < n → K (35 + 3 * b) ≤ b) → ndF K f c < 2 ^ n := by
  intro f
  induction f with
  | zero => intro c n _ _; exact Nat.two_pow_pos _
  | succ f ih =>
    intro c n h hk
    cases c with
    | zero => exact Nat.two_pow_pos _
    | succ c =>
      have := hk c (by omega)
      exact or_lt (Nat.pow_lt_pow_right (by omega) (by omega)) (ih _ n (by omega) hk)
/-- enough fuel is enough -/
theorem ndF_fuel {K : Nat → Nat} : ∀ (f g c : Nat), c ≤ f → c ≤ g → (∀ b, b < c → K (35 + 3 * b) ≤ b) → ndF K f c = ndF K g c := by
  intro f
  induction f with
  | zero => intro g c h1 h2 _; have e : c = 0 := by omega
            subst e; cases g <;> rfl
  | succ f ih =>
    intro g c h1 h2 hk
    cases c with
    | zero => cases g <;> rfl
    | succ c =>
      cases g with
      | zero => omega
      | succ g =>
        have := hk c (by omega)
        show 2 ^ c ||| ndF K f _ = 2 ^ c ||| ndF K g _
        rw [ih g _ (by omega) (by omega) (fun b hb => hk b (by omega))]
theorem aI_nI {a i : Nat} (ha : a < 2 ^ 31) (hi : i + 1 < 2 ^ 31) : nI i = aI a ↔ a = i + 1 := by
  rw [← aI_s, aI_eq (by omega) ha]
  omega
theorem X0_needsOf_L (H : CC w k K) (W : WF K) : ∀ F j c s, j ≤ K 5 → c ≤ j → j < F → fX0_needsOf_14 w k F (nI s) (aI c) (aI j) = some (nI (s ||| ndF K 9 c)) := by
  have hb := W.b
  intro F
  induction F with
  | zero => intro j c s _ _ h; omega
  | succ F ih =>
    intro j c s h1 h2 h3
    rw [fX0_needsOf_14]
    cases j with
    | zero =>
      have e : c = 0 := by omega
      subst e
      rw [aI_0, if_neg (fun z => z (by decide))]
      show some (nI s) = some (nI (s ||| 0))
      rw [Nat.or_zero]
    | succ j =>
      rw [aI_s, if_pos (nI_pos (by omega)), pk_back (by omega)]
      have hj := W.bil (b := j) (by omega)
      by_cases hc : c = j + 1
      · subst hc
        rw [if_pos (by rw [aI_s]), lT_eq, if_pos (inB_nI (by omega) (by omega)), ix_nI (by omega), (H.bil (by omega)).2.2, lT_eq, iSl_1 (by omega), nI_or, ih j _ _ (by omega) (by omega) (by omega), Nat.or_assoc]
        have e : ndF K 9 (j + 1) = 2 ^ j ||| ndF K 9 (K (35 + 3 * j)) := by
          show 2 ^ j ||| ndF K 8 _ = _
          rw [ndF_fuel 8 9 _ (by omega) (by omega) (fun b hb => (W.bil (b := b) (by omega)).2.2)]
        rw [e]
      · rw [if_neg (fun z => hc ((aI_nI (by omega) (by omega)).mp z)), ih j _ _ (by omega) (by omega) (by omega)]
theorem X0_needsOf_ok (H : CC w k K) (W : WF K) {b : Nat} (h : b < K 5) : fX0_needsOf w k (nI b) = some (nI (ned K b)) := by
  have hb := W.b
  have hj := W.bil h
  unfold fX0_needsOf
  rw [if_pos (inB_nI (by omega) (by omega)), ix_nI (by omega), (H.bil h).2.2, lT_eq, lT_eq, aI_pred (by omega)]
  have e := X0_needsOf_L H W FU b (K (35 + 3 * b)) 0 (by omega) (by omega) (by rw [FU_eq]; omega)
  rw [Nat.zero_or] at e
  exact e
theorem ned_lt {K : Nat → Nat} (W : WF K) {b : Nat} (h : b < K 5) : ned K b < 2 ^ b := by
  exact ndF_lt 9 _ _ (W.bil h).2.2 (fun c hc => (W.bil (b := c) (by omega)).2.2)
/-- bills that have b among their needs -/
def hei (K : Nat → Nat) (b : Nat) : Nat := bS (fun o => (ned K o).testBit b) (K 5)
theorem X0_heirsOf_L (H : CC w k K) (W : WF K) {b : Nat} (hb8 : b < 31) : ∀ F i, i ≤ K 5 → K 5 - i < F → fX0_heirsOf_6 w k (nI b) F (nI (bS (fun o => (ned K o).testBit b) i)) (nI i) = some (nI (hei K b)) := by
  have hb := W.b
  intro F
  induction F with
  | zero => intro i h1 h2; omega
  | succ F ih =>
    intro i h1 h2
    rw [fX0_heirsOf_6, H.c10]
    by_cases hi : i < K 5
    · have e := ih (i + 1) (by omega) (by omega)
      rw [bS] at e
      have hl := ned_lt W hi
      have hl2 := pow31 (n := i) (by omega)
      rw [if_pos (nI_lt hi (by omega)), X0_needsOf_ok H W hi, bI_some, holds_ok w (by omega) (by omega), bI_some, if_b01, lT_eq, iSl_1 (by omega), nI_or, nI_1]
      cases hq : (ned K i).testBit b <;> simpa [hq] using e
    · have e : i = K 5 := by omega
      rw [if_neg (nI_nlt (by omega) (by omega)), e]; rfl
theorem X0_heirsOf_ok (H : CC w k K) (W : WF K) {b : Nat} (h : b < K 5) : fX0_heirsOf w k (nI b) = some (nI (hei K b)) := by
  have hb := W.b
  unfold fX0_heirsOf
  have e := X0_heirsOf_L H W (b := b) (by omega) FU (b + 1) (by omega) (by rw [FU_eq]; omega)
  have z : bS (fun o => (ned K o).testBit b) (b + 1) = 0 := by
    apply Nat.eq_of_testBit_eq
    intro i
    rw [bS_bit, Nat.zero_testBit]
    by_cases hi : i < b + 1
    · have h1 := ned_lt W (b := i) (by omega)
      have h2 : 2 ^ i ≤ 2 ^ b := Nat.pow_le_pow_right (by omega) (by omega)
      rw [Nat.testBit_lt_two_pow (by omega)]
      simp
    · simp [hi]
  rw [z] at e
  rw [lT_eq, nI_1]
  exact e
/-- days of acts below n with p -/
def aDF (K : Nat → Nat) (p : Nat → Bool) : Nat → Nat
  | 0 => 0
  | n + 1 => if p n = true then aDF K p n ||| 2 ^ dA (K (57 + n)) else aDF K p n
theorem aDF_lt {K : Nat → Nat} (W : WF K) (p : Nat → Bool) : ∀ n, n ≤ K 6 → aDF K p n < 2 ^ K 0 := by
  intro n
  induction n with
  | zero => intro _; exact Nat.two_pow_pos _
  | succ n ih =>
    intro h
    have := W.act (i := n) (by omega)
    unfold aDF
    split
    · exact or_lt (ih (by omega)) (Nat.pow_lt_pow_right (by omega) this.1)
    · exact ih (by omega)
theorem aDF_bit {K : Nat → Nat} (p : Nat → Bool) (d : Nat) : ∀ n, (aDF K p n).testBit d = true ↔ ∃ i, i < n ∧ p i = true ∧ dA (K (57 + i)) = d := by
  intro n
  induction n with
  | zero => simp [aDF]
  | succ n ih =>
    unfold aDF
    by_cases hp : p n = true
    · rw [if_pos hp, Nat.testBit_or, Bool.or_eq_true, ih, Nat.testBit_two_pow, decide_eq_true_eq]
      constructor
      · rintro (⟨i, h1, h2, h3⟩ | h)
        · exact ⟨i, by omega, h2, h3⟩
        · exact ⟨n, by omega, hp, h⟩
      · rintro ⟨i, h1, h2, h3⟩
        by_cases e : i = n
        · subst e; exact Or.inr h3
        · exact Or.inl ⟨i, by omega, h2, h3⟩
    · rw [if_neg hp, ih]
      constructor
      · rintro ⟨i, h1, h2, h3⟩
        exact ⟨i, by omega, h2, h3⟩
      · rintro ⟨i, h1, h2, h3⟩
        by_cases e : i = n
        · subst e; exact absurd h2 hp
        · exact ⟨i, by omega, h2, h3⟩
def aks (K : Nat → Nat) : Nat := aDF K (fun i => bC (K (57 + i)) != 0) (K 6)
def fds (K : Nat → Nat) : Nat := aDF K (fun i => bC (K (57 + i)) == 0) (K 6)
theorem X0_askedDays_L (H : CC w k K) (W : WF K) : ∀ F i, i ≤ K 6 → K 6 - i < F → fX0_askedDays_4 w k F (nI (aDF K (fun i => bC (K (57 + i)) != 0) i)) (nI i) = some (nI (aks K)) := by
  have hb := W.b
  intro F
  induction F with
  | zero => intro i h1 h2; omega
  | succ F ih =>
    intro i h1 h2
    rw [fX0_askedDays_4, H.c14]
    by_cases hi : i < K 6
    · have ha := W.act hi
      have e := ih (i + 1) (by omega) (by omega)
      rw [aDF] at e
      rw [if_pos (nI_lt hi (by omega)), if_pos (inB_nI (by omega) (by omega)), ix_nI (by omega), (H.act hi).1, (H.act hi).2, if_pos (inB_nI (by omega) (by omega)), lT_eq, iSl_1 (by omega), nI_or, nI_1]
      by_cases hq : bC (K (57 + i)) = 0
      · rw [if_neg (fun z => z ((aI_m1 (by omega)).mpr hq))]; simpa [hq] using e
      · rw [if_pos (fun z => hq ((aI_m1 (by omega)).mp z))]; simpa [hq] using e
    · have e : i = K 6 := by omega
      rw [if_neg (nI_nlt (by omega) (by omega)), e]; rfl
theorem X0_askedDays_ok (H : CC w k K) (W : WF K) : fX0_askedDays w k = some (nI (aks K)) := by
  have := W.b
  exact X0_askedDays_L H W FU 0 (by omega) (by rw [FU_eq]; omega)
theorem X0_fedDays_L (H : CC w k K) (W : WF K) : ∀ F i, i ≤ K 6 → K 6 - i < F → fX0_fedDays_4 w k F (nI (aDF K (fun i => bC (K (57 + i)) == 0) i)) (nI i) = some (nI (fds K)) := by
  have hb := W.b
  intro F
  induction F with
  | zero => intro i h1 h2; omega
  | succ F ih =>
    intro i h1 h2
    rw [fX0_fedDays_4, H.c14]
    by_cases hi : i < K 6
    · have ha := W.act hi
      have e := ih (i + 1) (by omega) (by omega)
      rw [aDF] at e
      rw [if_pos (nI_lt hi (by omega)), if_pos (inB_nI (by omega) (by omega)), ix_nI (by omega), (H.act hi).1, (H.act hi).2, if_pos (inB_nI (by omega) (by omega)), lT_eq, iSl_1 (by omega), nI_or, nI_1]
      by_cases hq : bC (K (57 + i)) = 0
      · rw [if_pos ((aI_m1 (by omega)).mpr hq)]; simpa [hq] using e
      · rw [if_neg (fun z => hq ((aI_m1 (by omega)).mp z))]; simpa [hq] using e
    · have e : i = K 6 := by omega
      rw [if_neg (nI_nlt (by omega) (by omega)), e]; rfl
theorem X0_fedDays_ok (H : CC w k K) (W : WF K) : fX0_fedDays w k = some (nI (fds K)) := by
  have := W.b
  exact X0_fedDays_L H W FU 0 (by omega) (by rw [FU_eq]; omega)
theorem aks_lt {K : Nat → Nat} (W : WF K) : aks K < 2 ^ K 0 := aDF_lt W _ _ (Nat.le_refl _)
theorem fds_lt {K : Nat → Nat} (W : WF K) : fds K < 2 ^ K 0 := aDF_lt W _ _ (Nat.le_refl _)
theorem lt31 {K : Nat → Nat} (W : WF K) {x : Nat} (h : x < 2 ^ K 0) : x < 2 ^ 31 := by
  have := pow31 (n := K 0) (by have := W.b; omega)
  omega
theorem X0_isFree_ok (H : CC w k K) (W : WF K) {d : Nat} (hd : d < 31) : fX0_isFree w k (nI d) = some (b01 (!((aks K ||| fds K).testBit d))) := by
  unfold fX0_isFree
  rw [X0_askedDays_ok H W, bI_some, X0_fedDays_ok H W, bI_some, nI_or, holds_ok w (lt31 W (or_lt (aks_lt W) (fds_lt W))) (by omega), bI_some, if_b01', some_b01']
/-- a bill is asked for -/
def isAk (K : Nat → Nat) (b : Nat) : Nat → Bool
  | 0 => false
  | n + 1 => isAk K b n || bC (K (57 + n)) == b + 1
theorem isAk_iff {K : Nat → Nat} {b : Nat} : ∀ n, isAk K b n = true ↔ ∃ i, i < n ∧ bC (K (57 + i)) = b + 1 := by
  intro n
  induction n with
  | zero => simp [isAk]
  | succ n ih =>
    unfold isAk
    rw [Bool.or_eq_true, ih, beq_iff_eq]
    constructor
    · rintro (⟨i, h1, h2⟩ | h)
      · exact ⟨i, by omega, h2⟩
      · exact ⟨n, by omega, h⟩
    · rintro ⟨i, h1, h2⟩
      by_cases e : i = n
      · subst e; exact Or.inr h2
      · exact Or.inl ⟨i, by omega, h2⟩
theorem X0_isAskedFor_L (H : CC w k K) (W : WF K) {b : Nat} (hb8 : b < K 5) : ∀ F i, i ≤ K 6 → K 6 - i < F → isAk K b i = false → fX0_isAskedFor_2 w k (nI b) F (nI i) = some (b01 (isAk K b (K 6))) := by
  have hb := W.b
  intro F
  induction F with
  | zero => intro i h1 h2; omega
  | succ F ih =>
    intro i h1 h2 h3
    rw [fX0_isAskedFor_2, H.c14]
    by_cases hi : i < K 6
    · have ha := W.act hi
      rw [if_pos (nI_lt hi (by omega)), if_pos (inB_nI (by omega) (by omega)), ix_nI (by omega), (H.act hi).2, nI_1]
      by_cases hq : bC (K (57 + i)) = b + 1
      · rw [if_pos (by rw [hq, aI_s]), (isAk_iff _).mpr ⟨i, hi, hq⟩]; rfl
      · rw [if_neg (fun z => hq ((aI_nI (by omega) (by omega)).mp z.symm))]
        exact ih (i + 1) (by omega) (by omega) (by unfold isAk; rw [h3]; simp [hq])
    · have e : i = K 6 := by omega
      rw [if_neg (nI_nlt (by omega) (by omega)), ← e, h3]; rfl
theorem X0_isAskedFor_ok (H : CC w k K) (W : WF K) {b : Nat} (hb8 : b < K 5) : fX0_isAskedFor w k (nI b) = some (b01 (isAk K b (K 6))) := by
  have := W.b
  exact X0_isAskedFor_L H W hb8 FU 0 (by omega) (by rw [FU_eq]; omega) rfl
end XD
