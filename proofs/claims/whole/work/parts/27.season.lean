/-! SEASON: the days of a camp, one after another -/
/-- what is done on the day d by the first n acts: 0 nothing, 1 fattening, b + 2 asking for b -/
def aDn (K : Nat → Nat) (d : Nat) : Nat → Nat
  | 0 => 0
  | n + 1 => if dA (K (57 + n)) = d then bC (K (57 + n)) + 1 else aDn K d n
def aD (K : Nat → Nat) (d : Nat) : Nat := aDn K d (K 6)
/-- the day on which b is asked for by the first n acts, one more -/
def aBn (K : Nat → Nat) (b : Nat) : Nat → Nat
  | 0 => 0
  | n + 1 => if bC (K (57 + n)) = b + 1 then dA (K (57 + n)) + 1 else aBn K b n
def aB (K : Nat → Nat) (b : Nat) : Nat := aBn K b (K 6)
theorem aDn_iff {K : Nat → Nat} (W : WF K) {d c : Nat} : ∀ n, n ≤ K 6 → (aDn K d n = c + 1 ↔ ∃ i, i < n ∧ dA (K (57 + i)) = d ∧ bC (K (57 + i)) = c) := by
  intro n
  induction n with
  | zero => intro _; exact ⟨fun z => (by cases z), fun ⟨i, h, _⟩ => by omega⟩
  | succ n ih =>
    intro hn
    unfold aDn
    by_cases h : dA (K (57 + n)) = d
    · rw [if_pos h]
      constructor
      · intro z; exact ⟨n, by omega, h, by omega⟩
      · rintro ⟨i, h1, h2, h3⟩
        by_cases e : i = n
        · subst e; omega
        · exact absurd (h2.trans h.symm) (W.two (by omega) (by omega) e).1
    · rw [if_neg h, ih (by omega)]
      constructor
      · rintro ⟨i, h1, h2, h3⟩; exact ⟨i, by omega, h2, h3⟩
      · rintro ⟨i, h1, h2, h3⟩
        by_cases e : i = n
        · subst e; exact absurd h2 h
        · exact ⟨i, by omega, h2, h3⟩
theorem aDn_0 {K : Nat → Nat} {d : Nat} : ∀ n, (aDn K d n = 0 ↔ ∀ i, i < n → dA (K (57 + i)) ≠ d) := by
  intro n
  induction n with
  | zero => exact ⟨fun _ i h => by omega, fun _ => rfl⟩
  | succ n ih =>
    unfold aDn
    by_cases h : dA (K (57 + n)) = d
    · rw [if_pos h]; exact ⟨fun z => (by cases z), fun z => absurd h (z n (by omega))⟩
    · rw [if_neg h, ih]
      refine ⟨fun z i hi => ?_, fun z i hi => z i (by omega)⟩
      by_cases e : i = n
      · subst e; exact h
      · exact z i (by omega)
theorem aBn_iff {K : Nat → Nat} (W : WF K) {b d : Nat} : ∀ n, n ≤ K 6 → (aBn K b n = d + 1 ↔ ∃ i, i < n ∧ dA (K (57 + i)) = d ∧ bC (K (57 + i)) = b + 1) := by
  intro n
  induction n with
  | zero => intro _; exact ⟨fun z => (by cases z), fun ⟨i, h, _⟩ => by omega⟩
  | succ n ih =>
    intro hn
    unfold aBn
    by_cases h : bC (K (57 + n)) = b + 1
    · rw [if_pos h]
      constructor
      · intro z; exact ⟨n, by omega, by omega, h⟩
      · rintro ⟨i, h1, h2, h3⟩
        by_cases e : i = n
        · subst e; omega
        · have := (W.two (i := i) (j := n) (by omega) (by omega) e).2 (h3.trans h.symm)
          omega
    · rw [if_neg h, ih (by omega)]
      constructor
      · rintro ⟨i, h1, h2, h3⟩; exact ⟨i, by omega, h2, h3⟩
      · rintro ⟨i, h1, h2, h3⟩
        by_cases e : i = n
        · subst e; exact absurd h3 h
        · exact ⟨i, by omega, h2, h3⟩
/-- asked for on a day, either way -/
theorem aB_aD {K : Nat → Nat} (W : WF K) {b d : Nat} : aB K b = d + 1 ↔ aD K d = b + 2 :=
  (aBn_iff W (K 6) (Nat.le_refl _)).trans (aDn_iff W (c := b + 1) (K 6) (Nat.le_refl _)).symm
theorem aD_lt {K : Nat → Nat} (W : WF K) {d : Nat} : aD K d < K 5 + 2 := by
  rcases Nat.eq_zero_or_pos (aD K d) with h | h
  · omega
  · obtain ⟨i, h1, h2, h3⟩ := (aDn_iff W (d := d) (c := aD K d - 1) (K 6) (Nat.le_refl _)).mp (by show aD K d = _; omega)
    have := (W.act h1).2.1
    omega
theorem aD_day {K : Nat → Nat} (W : WF K) {d : Nat} (h : K 0 ≤ d) : aD K d = 0 := by
  refine (aDn_0 (K 6)).mpr (fun i hi => ?_)
  have := (W.act hi).1
  omega
theorem aB_le {K : Nat → Nat} (W : WF K) (b : Nat) : aB K b ≤ K 0 := by
  rcases Nat.eq_zero_or_pos (aB K b) with h | h
  · omega
  · obtain ⟨i, h1, h2, h3⟩ := (aBn_iff W (b := b) (d := aB K b - 1) (K 6) (Nat.le_refl _)).mp (by show aB K b = _; omega)
    have := (W.act h1).1
    omega
/-- the hunger on a day -/
def huF (K : Nat → Nat) : Nat → Nat
  | 0 => K 1
  | d + 1 => if aD K d = 0 then huF K d + 1 else 1
theorem huF_le {K : Nat → Nat} (W : WF K) : ∀ d, huF K d ≤ 9 + d := by
  have hb := W.b
  intro d
  induction d with
  | zero => show K 1 ≤ _; omega
  | succ d ih => unfold huF; split <;> omega
def lcg (s : Int64) : Int64 := lRm (1103515245 * s + 12345) 2147483648
def okD (K : Nat → Nat) (s : Int64) : Bool := decide (lg_cmp (lRm (s / 65536) 10) (nI (K 3)).toInt64 < 0)
/-- why b doesn't pass on the day d: 0 it does -/
def whyF (K : Nat → Nat) (V : Nat → Nat) (b d : Nat) (ok : Bool) : Nat :=
  if ok = false then 1 else if (K 8).testBit d = true then 2 else if (sky K (1 - K (33 + 3 * b))).testBit d = true then 3 else if K (35 + 3 * b) = 0 then 0 else if 0 < V (K (35 + 3 * b) - 1) ∧ V (K (35 + 3 * b) - 1) - 1 < d then 0 else 4
theorem whyF_le (K : Nat → Nat) (V : Nat → Nat) (b d : Nat) (ok : Bool) : whyF K V b d ok ≤ 4 := by
  unfold whyF
  split
  · omega
  · split
    · omega
    · split
      · omega
      · split
        · omega
        · split <;> omega
def updN (V : Nat → Nat) (b x : Nat) (i : Nat) : Nat := if i = b then x else V i
theorem updN_at (V : Nat → Nat) (b x : Nat) : updN V b x b = x := if_pos rfl
theorem updN_ne {V : Nat → Nat} {b x i : Nat} (h : i ≠ b) : updN V b x i = V i := if_neg h
/-- seed, draws and whether it is well -/
def drw (K : Nat → Nat) (dr : Bool) (d : Nat) (s : Int64) (c : Nat) : Int64 × Nat × Bool :=
  if K 2 ≤ huF K d then (if dr = true then (lcg s, c + 1, okD K (lcg s)) else (s, c, true)) else (s, c, false)
/-- one day -/
def stp (K : Nat → Nat) (dr : Bool) (d : Nat) (S : (Nat → Nat) × Int64 × Nat) : (Nat → Nat) × Int64 × Nat :=
  if 2 ≤ aD K d then
    (if whyF K S.1 (aD K d - 2) d (drw K dr d S.2.1 S.2.2).2.2 = 0 then updN S.1 (aD K d - 2) (d + 1) else S.1, (drw K dr d S.2.1 S.2.2).1, (drw K dr d S.2.1 S.2.2).2.1)
  else S
/-- before the day d: which bill passed when (one more), seed, draws -/
def sea (K : Nat → Nat) (dr : Bool) (s0 : Int64) : Nat → (Nat → Nat) × Int64 × Nat
  | 0 => (fun _ => 0, s0, 0)
  | d + 1 => stp K dr d (sea K dr s0 d)
theorem sea_c {K : Nat → Nat} (dr : Bool) (s0 : Int64) : ∀ d, (sea K dr s0 d).2.2 ≤ d := by
  intro d
  induction d with
  | zero => exact Nat.le_refl _
  | succ d ih =>
    show (stp K dr d (sea K dr s0 d)).2.2 ≤ d + 1
    unfold stp
    split
    · show (drw K dr d _ _).2.1 ≤ d + 1
      unfold drw
      split
      · split
        · show _ + 1 ≤ d + 1; omega
        · show (sea K dr s0 d).2.2 ≤ d + 1; omega
      · show (sea K dr s0 d).2.2 ≤ d + 1; omega
    · omega
/-- a bill passes on the day on which it is asked for, or never -/
theorem sea_V {K : Nat → Nat} (W : WF K) (dr : Bool) (s0 : Int64) (b : Nat) : ∀ d, (sea K dr s0 d).1 b = 0 ∨ ((sea K dr s0 d).1 b = aB K b ∧ 0 < aB K b ∧ aB K b ≤ d) := by
  intro d
  induction d with
  | zero => exact Or.inl rfl
  | succ d ih =>
    show (stp K dr d (sea K dr s0 d)).1 b = 0 ∨ _
    have keep : (sea K dr s0 d).1 b = 0 ∨ ((sea K dr s0 d).1 b = aB K b ∧ 0 < aB K b ∧ aB K b ≤ d + 1) := ih.imp id (fun z => ⟨z.1, z.2.1, by omega⟩)
    have e : (sea K dr s0 (d + 1)).1 b = (stp K dr d (sea K dr s0 d)).1 b := rfl
    rw [e]
    unfold stp
    split
    · rename_i h2
      show (if _ then _ else _ : Nat → Nat) b = 0 ∨ ((if _ then _ else _ : Nat → Nat) b = _ ∧ _)
      split
      · by_cases c : b = aD K d - 2
        · subst c
          rw [updN_at]
          have : aB K (aD K d - 2) = d + 1 := (aB_aD W).mpr (by omega)
          exact Or.inr ⟨this.symm, by omega, by omega⟩
        · rw [updN_ne c]; exact keep
      · exact keep
    · exact keep
theorem sea_stay {K : Nat → Nat} (W : WF K) (dr : Bool) (s0 : Int64) (b : Nat) {d : Nat} (h : aB K b ≤ d) : ∀ n, (sea K dr s0 (d + n)).1 b = (sea K dr s0 d).1 b := by
  intro n
  induction n with
  | zero => rfl
  | succ n ih =>
    rw [← ih]
    show (stp K dr (d + n) (sea K dr s0 (d + n))).1 b = _
    unfold stp
    split
    · rename_i h2
      show (if _ then _ else _ : Nat → Nat) b = _
      split
      · refine updN_ne (fun c => ?_)
        have : aB K b = d + n + 1 := (aB_aD W).mpr (by omega)
        omega
      · rfl
    · rfl
/-- what passed before a day: seen on the day, or in the end -/
theorem sea_back {K : Nat → Nat} (W : WF K) (dr : Bool) (s0 : Int64) (b : Nat) {d n : Nat} (h : d ≤ n) : (0 < (sea K dr s0 d).1 b ∧ (sea K dr s0 d).1 b - 1 < d) ↔ (0 < (sea K dr s0 n).1 b ∧ (sea K dr s0 n).1 b - 1 < d) := by
  by_cases c : aB K b ≤ d
  · obtain ⟨m, rfl⟩ : ∃ m, n = d + m := ⟨n - d, by omega⟩
    rw [sea_stay W dr s0 b c]
  · have h1 := sea_V W dr s0 b d
    have h2 := sea_V W dr s0 b n
    omega
theorem whyF_back {K : Nat → Nat} (W : WF K) (dr : Bool) (s0 : Int64) (b : Nat) {d n : Nat} (h : d ≤ n) (ok : Bool) : whyF K (sea K dr s0 d).1 b d ok = whyF K (sea K dr s0 n).1 b d ok := by
  unfold whyF
  have := sea_back W dr s0 (K (35 + 3 * b) - 1) h
  by_cases c : 0 < (sea K dr s0 d).1 (K (35 + 3 * b) - 1) ∧ (sea K dr s0 d).1 (K (35 + 3 * b) - 1) - 1 < d
  · rw [if_pos c, if_pos (this.mp c)]
  · rw [if_neg c, if_neg (fun z => c (this.mpr z))]
