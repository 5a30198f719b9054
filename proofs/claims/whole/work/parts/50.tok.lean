/-! READING: signs of a tape, tokens, one mathematical reader for both -/
def chB (B : Nat → Int32) (t k : Nat) : Int32 := if k < t then B k &&& 255 else -1
/-- kinds of signs: 0 the end, 1 a letter, 2 a digit, 3 the sign, 4 another, 5 a blank -/
def sgK (x : Int32) : Nat := if x = -1 then 0 else if x = 32 ∨ x = 10 then 5 else if ¬ x < 97 ∧ ¬ 122 < x then 1 else if ¬ x < 48 ∧ ¬ 57 < x then 2 else if x = 59 then 3 else 4
theorem kindOf_ok (w : HW) (x : Int32) : fX4_kindOf w x = some (nI (sgK x)) := by
  unfold fX4_kindOf fX4_kindOf_35 sgK
  by_cases h0 : x = -1
  · simp only [h0, ↓reduceIte]; rfl
  by_cases h1 : x = 32
  · subst h1; rfl
  by_cases h2 : x = 10
  · subst h2; rfl
  by_cases h3 : x < 97 <;> by_cases h4 : 122 < x <;> by_cases h5 : x < 48 <;> by_cases h6 : 57 < x <;> by_cases h7 : x = 59 <;>
    simp only [h0, h1, h2, h3, h4, h5, h6, h7, ↓reduceIte, not_true_eq_false, not_false_eq_true, and_self, and_false, false_and, and_true, true_and, or_self] <;> rfl
theorem sgK_le (x : Int32) : sgK x ≤ 5 := by
  unfold sgK
  repeat' split
  all_goals omega
theorem sgK_0 {x : Int32} : sgK x = 0 ↔ x = -1 := by
  unfold sgK
  constructor
  · intro h
    by_cases h0 : x = -1
    · exact h0
    · rw [if_neg h0] at h
      repeat' split at h
      all_goals omega
  · intro h; rw [if_pos h]
theorem and255_ne (x : Int32) : x &&& 255 ≠ -1 := by
  intro e
  have h := congrArg (fun z => bt z 31) e
  have h1 : bt (x &&& 255) 31 = (bt x 31 && bt 255 31) := b_and x 255 31
  have h2 : bt (255 : Int32) 31 = false := by decide
  have h3 : bt (-1 : Int32) 31 = true := by decide
  have h4 : bt (x &&& 255) 31 = bt (-1) 31 := h
  rw [h1, h2, h3, Bool.and_false] at h4
  cases h4
section CHR
variable {B : Nat → Int32} {t : Nat}
theorem ch_0 {k : Nat} : sgK (chB B t k) = 0 ↔ t ≤ k := by
  rw [sgK_0]
  unfold chB
  by_cases h : k < t
  · rw [if_pos h]
    exact ⟨fun e => absurd e (and255_ne _), fun e => by omega⟩
  · rw [if_neg h]
    exact ⟨fun _ => by omega, fun _ => rfl⟩
theorem sgK_2 {x : Int32} (h : sgK x = 2) : ∃ d : Nat, d ≤ 9 ∧ x = nI (48 + d) := by
  unfold sgK at h
  by_cases h0 : x = -1
  · rw [if_pos h0] at h; omega
  rw [if_neg h0] at h
  by_cases h1 : x = 32 ∨ x = 10
  · rw [if_pos h1] at h; omega
  rw [if_neg h1] at h
  by_cases h2 : ¬ x < 97 ∧ ¬ 122 < x
  · rw [if_pos h2] at h; omega
  rw [if_neg h2] at h
  by_cases h3 : ¬ x < 48 ∧ ¬ 57 < x
  · obtain ⟨a, b⟩ := h3
    have e1 : (48 : Int32).toInt = 48 := rfl
    have e2 : (57 : Int32).toInt = 57 := rfl
    rw [fa_lt, e1] at a
    rw [fa_lt, e2] at b
    obtain ⟨j, hj, rfl⟩ := rng_of (x := x) (n := 58) (by omega) ⟨by rw [fa_le]; show (0 : Int) ≤ _; omega, by rw [fa_lt, nI_toInt (by omega)]; omega⟩
    rw [nI_toInt (by omega)] at a b
    exact ⟨j - 48, by omega, congrArg nI (by omega)⟩
  · rw [if_neg h3] at h
    split at h <;> omega
/-- behind the blanks -/
def skB (ch : Nat → Int32) : Nat → Nat → Nat
  | 0, k => k
  | F + 1, k => if sgK (ch k) = 5 then skB ch F (k + 1) else k
/-- behind the signs of a kind -/
def enB (ch : Nat → Int32) (c : Nat) : Nat → Nat → Nat
  | 0, k => k
  | F + 1, k => if sgK (ch k) = c then enB ch c F (k + 1) else k
def vlB (ch : Nat → Int32) : Nat → Nat → Nat → Nat
  | 0, _, v => v
  | F + 1, k, v => if sgK (ch k) = 2 then vlB ch F (k + 1) (min 99999 (10 * v + (ix (ch k) - 48))) else v
theorem skB_s {ch : Nat → Int32} (h : sgK (ch t) = 0) {k : Nat} (hk : k ≤ t) : skB ch (t - k) k = if sgK (ch k) = 5 then skB ch (t - (k + 1)) (k + 1) else k := by
  by_cases e : k = t
  · subst e
    rw [Nat.sub_self, h, if_neg (by omega)]
    rfl
  · obtain ⟨F, hF⟩ : ∃ F, t - k = F + 1 := ⟨t - k - 1, by omega⟩
    rw [hF, show t - (k + 1) = F by omega]
    rfl
theorem enB_s {ch : Nat → Int32} {c : Nat} (h : sgK (ch t) = 0) (hc : c ≠ 0) {k : Nat} (hk : k ≤ t) : enB ch c (t - k) k = if sgK (ch k) = c then enB ch c (t - (k + 1)) (k + 1) else k := by
  by_cases e : k = t
  · subst e
    rw [Nat.sub_self, h, if_neg (fun z => hc z.symm)]
    rfl
  · obtain ⟨F, hF⟩ : ∃ F, t - k = F + 1 := ⟨t - k - 1, by omega⟩
    rw [hF, show t - (k + 1) = F by omega]
    rfl
theorem vlB_s {ch : Nat → Int32} (h : sgK (ch t) = 0) {k v : Nat} (hk : k ≤ t) : vlB ch (t - k) k v = if sgK (ch k) = 2 then vlB ch (t - (k + 1)) (k + 1) (min 99999 (10 * v + (ix (ch k) - 48))) else v := by
  by_cases e : k = t
  · subst e
    rw [Nat.sub_self, h, if_neg (by omega)]
    rfl
  · obtain ⟨F, hF⟩ : ∃ F, t - k = F + 1 := ⟨t - k - 1, by omega⟩
    rw [hF, show t - (k + 1) = F by omega]
    rfl
theorem skB_b {ch : Nat → Int32} : ∀ F k, k ≤ skB ch F k ∧ skB ch F k ≤ k + F := by
  intro F
  induction F with
  | zero => intro k; exact ⟨Nat.le_refl _, Nat.le_refl _⟩
  | succ F ih =>
    intro k
    unfold skB
    split
    · have := ih (k + 1); omega
    · omega
theorem enB_b {ch : Nat → Int32} {c : Nat} : ∀ F k, k ≤ enB ch c F k ∧ enB ch c F k ≤ k + F ∧ ∀ i, k ≤ i → i < enB ch c F k → sgK (ch i) = c := by
  intro F
  induction F with
  | zero => intro k; exact ⟨Nat.le_refl _, Nat.le_refl _, fun i h1 h2 => by unfold enB at h2; omega⟩
  | succ F ih =>
    intro k
    unfold enB
    split
    · next h =>
      have := ih (k + 1)
      refine ⟨by omega, by omega, fun i h1 h2 => ?_⟩
      by_cases e : i = k
      · subst e; exact h
      · exact this.2.2 i (by omega) h2
    · exact ⟨by omega, by omega, fun i h1 h2 => by omega⟩
theorem vlB_b {ch : Nat → Int32} : ∀ F k v, v ≤ 99999 → vlB ch F k v ≤ 99999 := by
  intro F
  induction F with
  | zero => intro k v h; exact h
  | succ F ih =>
    intro k v h
    unfold vlB
    split
    · exact ih _ _ (Nat.min_le_left _ _)
    · exact h
theorem skB_5 {ch : Nat → Int32} (h : sgK (ch t) = 0) : ∀ n k, t - k = n → k ≤ t → sgK (ch (skB ch (t - k) k)) ≠ 5 := by
  intro n
  induction n with
  | zero =>
    intro k h1 h2
    have e : k = t := by omega
    subst e
    rw [Nat.sub_self]
    show sgK (ch k) ≠ 5
    omega
  | succ n ih =>
    intro k h1 h2
    rw [skB_s h h2]
    split
    · exact ih (k + 1) (by omega) (by omega)
    · assumption
/-- the token at k: where it starts, its kind, where it stops, its number -/
def tkS (B : Nat → Int32) (t k : Nat) : Nat := skB (chB B t) (t - k) k
def tkC (B : Nat → Int32) (t k : Nat) : Nat := sgK (chB B t (tkS B t k))
def tkE (B : Nat → Int32) (t k : Nat) : Nat := if tkC B t k = 0 then tkS B t k else if tkC B t k = 1 ∨ tkC B t k = 2 then enB (chB B t) (tkC B t k) (t - tkS B t k) (tkS B t k) else tkS B t k + 1
def tkV (B : Nat → Int32) (t k : Nat) : Nat := if tkC B t k = 2 then vlB (chB B t) (t - tkS B t k) (tkS B t k) 0 else 0
theorem ch_t : sgK (chB B t t) = 0 := ch_0.mpr (Nat.le_refl _)
theorem tk_b {k : Nat} (hk : k ≤ t) : k ≤ tkS B t k ∧ tkS B t k ≤ tkE B t k ∧ tkE B t k ≤ t ∧ tkC B t k ≤ 4 ∧ tkV B t k ≤ 99999 ∧ (tkC B t k ≠ 0 → tkS B t k < tkE B t k) ∧ (tkC B t k = 1 → ∀ i, tkS B t k ≤ i → i < tkE B t k → sgK (chB B t i) = 1) := by
  have h1 := skB_b (ch := chB B t) (t - k) k
  have h2 := skB_5 (ch := chB B t) ch_t (t - k) k rfl hk
  have h3 := sgK_le (chB B t (tkS B t k))
  have h4 : tkC B t k ≠ 5 := h2
  have h5 : tkC B t k ≤ 5 := h3
  have h6 : tkS B t k ≤ t := by unfold tkS; omega
  have h8 : k ≤ tkS B t k := h1.1
  refine ⟨h8, ?_⟩
  have hv : tkV B t k ≤ 99999 := by
    unfold tkV
    split
    · exact vlB_b _ _ _ (by omega)
    · omega
  by_cases c0 : tkC B t k = 0
  · have e : tkE B t k = tkS B t k := by unfold tkE; rw [if_pos c0]
    rw [e]
    exact ⟨Nat.le_refl _, h6, by omega, hv, fun z => absurd c0 z, fun z => by omega⟩
  · have hlt : tkS B t k < t := by
      have := mt (ch_0 (B := B) (t := t) (k := tkS B t k)).mpr c0
      omega
    by_cases c1 : tkC B t k = 1 ∨ tkC B t k = 2
    · have e : tkE B t k = enB (chB B t) (tkC B t k) (t - tkS B t k) (tkS B t k) := by unfold tkE; rw [if_neg c0, if_pos c1]
      have hb := enB_b (ch := chB B t) (c := tkC B t k) (t - tkS B t k) (tkS B t k)
      have hs := enB_s (ch := chB B t) ch_t c0 h6
      rw [if_pos (show sgK (chB B t (tkS B t k)) = tkC B t k from rfl)] at hs
      have hb2 := enB_b (ch := chB B t) (c := tkC B t k) (t - (tkS B t k + 1)) (tkS B t k + 1)
      rw [← e] at hb hs
      refine ⟨hb.1, by omega, by omega, hv, fun _ => by omega, fun z i q1 q2 => ?_⟩
      have := hb.2.2 i q1 q2
      omega
    · have e : tkE B t k = tkS B t k + 1 := by unfold tkE; rw [if_neg c0, if_neg c1]
      rw [e]
      exact ⟨by omega, by omega, by omega, hv, fun _ => by omega, fun z => absurd (Or.inl z) c1⟩
end CHR
/-- where a reader stands: fault's kind, its place (one more), the token's start, its stop, its kind, its number -/
def ZZ : Type := Nat × Nat × Nat × Nat × Nat × Nat
def ZZ.f (z : ZZ) : Nat := z.1
def ZZ.p (z : ZZ) : Nat := z.2.1
def ZZ.s (z : ZZ) : Nat := z.2.2.1
def ZZ.e (z : ZZ) : Nat := z.2.2.2.1
def ZZ.c (z : ZZ) : Nat := z.2.2.2.2.1
def ZZ.v (z : ZZ) : Nat := z.2.2.2.2.2
def mkZ (f p s e c v : Nat) : ZZ := (f, p, s, e, c, v)
def zt (B : Nat → Int32) (t f p k : Nat) : ZZ := mkZ f p (tkS B t k) (tkE B t k) (tkC B t k) (tkV B t k)
def errZ (k : Nat) (z : ZZ) : ZZ := if z.f = 0 then mkZ k (z.s + 1) z.s z.e z.c z.v else z
def alB (p : Nat → Bool) : Nat → Bool
  | 0 => true
  | n + 1 => alB p n && p n
theorem alB_iff {p : Nat → Bool} : ∀ n, alB p n = true ↔ ∀ i, i < n → p i = true := by
  intro n
  induction n with
  | zero => exact ⟨fun _ i hi => (by omega), fun _ => rfl⟩
  | succ n ih =>
    unfold alB
    rw [Bool.and_eq_true, ih]
    constructor
    · rintro ⟨h1, h2⟩ i hi
      by_cases e : i = n
      · subst e; exact h2
      · exact h1 i (by omega)
    · intro h
      exact ⟨fun i hi => h i (by omega), h n (by omega)⟩
def isz (B : Nat → Int32) (t q : Nat) (z : ZZ) : Bool := decide (z.c = 1) && (decide (z.e - z.s = hlen.getD q 0) && alB (fun i => decide (chB B t (z.s + i) = sCh q (nI i))) (hlen.getD q 0))
def wordZ (B : Nat → Int32) (t q : Nat) (z : ZZ) : ZZ := if z.f = 0 then (if isz B t q z = true then zt B t 0 z.p z.e else errZ 1 z) else z
def numV (lo n : Nat) (z : ZZ) : Nat := if z.f = 0 ∧ z.c = 2 ∧ lo ≤ z.v ∧ z.v < n then z.v else 0
def numZ (B : Nat → Int32) (t lo n : Nat) (z : ZZ) : ZZ := if z.f = 0 then (if z.c = 2 then (if lo ≤ z.v ∧ z.v < n then zt B t 0 z.p z.e else errZ 2 z) else errZ 1 z) else z
def signZ (B : Nat → Int32) (t : Nat) (z : ZZ) : ZZ := if z.f = 0 then (if z.c = 3 then zt B t 0 z.p z.e else errZ 1 z) else z
def ZI (B : Nat → Int32) (t : Nat) (z : ZZ) : Prop := z.f ≤ 3 ∧ z.p ≤ 900 ∧ z.s ≤ z.e ∧ z.e ≤ t ∧ z.c ≤ 4 ∧ z.v ≤ 99999 ∧ (z.c ≠ 0 → z.s < z.e) ∧ (z.c = 1 → ∀ i, z.s ≤ i → i < z.e → sgK (chB B t i) = 1)
section ZIS
variable {B : Nat → Int32} {t : Nat} {z : ZZ}
theorem ZI.mk0 {f p k : Nat} (hf : f ≤ 3) (hp : p ≤ 900) (hk : k ≤ t) : ZI B t (zt B t f p k) := by
  obtain ⟨h1, h2, h3, h4, h5, h6, h7⟩ := tk_b (B := B) hk
  exact ⟨hf, hp, h2, h3, h4, h5, h6, h7⟩
theorem ZI.err (h : ZI B t z) (ht : t ≤ 800) {k : Nat} (hk : k ≤ 3) : ZI B t (errZ k z) := by
  unfold errZ
  split
  · obtain ⟨h1, h2, h3, h4, h5, h6, h7⟩ := h
    exact ⟨hk, by show z.s + 1 ≤ 900; omega, h3, h4, h5, h6, h7⟩
  · exact h
theorem ZI.adv (h : ZI B t z) : ZI B t (zt B t 0 z.p z.e) := ZI.mk0 (by omega) h.2.1 h.2.2.2.1
theorem ZI.word (h : ZI B t z) (ht : t ≤ 800) (q : Nat) : ZI B t (wordZ B t q z) := by
  unfold wordZ
  split
  · split
    · exact h.adv
    · exact h.err ht (by omega)
  · exact h
theorem ZI.num (h : ZI B t z) (ht : t ≤ 800) (lo n : Nat) : ZI B t (numZ B t lo n z) := by
  unfold numZ
  split
  · split
    · split
      · exact h.adv
      · exact h.err ht (by omega)
    · exact h.err ht (by omega)
  · exact h
theorem ZI.sign (h : ZI B t z) (ht : t ≤ 800) : ZI B t (signZ B t z) := by
  unfold signZ
  split
  · split
    · exact h.adv
    · exact h.err ht (by omega)
  · exact h
theorem numV_lt {lo n : Nat} (hn : 0 < n) : numV lo n z < n := by
  unfold numV
  split
  · next h => exact h.2.2.2
  · exact hn
end ZIS
theorem sLn_ok : ∀ q, q < 13 → sLn q = nI (hlen.getD q 0) := by decide +kernel
theorem hlen_le : ∀ q, q < 13 → hlen.getD q 0 ≤ 6 := by decide +kernel
