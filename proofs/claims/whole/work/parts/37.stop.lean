/-! STOP, STOPS: the fewest days that stop a chain -/
/-- the cost of the days of T below m -/
def cu (T : Nat) : Nat → Nat
  | 0 => 0
  | m + 1 => cu T m + if T.testBit m = true then 16384 + 2 ^ m else 0
theorem cu_s (T m : Nat) : cu T (m + 1) = cu T m + if T.testBit m = true then 16384 + 2 ^ m else 0 := rfl
theorem cu_mono (T : Nat) {a b : Nat} (h : a ≤ b) : cu T a ≤ cu T b := by
  induction b with
  | zero => have : a = 0 := by omega
            subst this; exact Nat.le_refl _
  | succ b ih =>
    by_cases e : a = b + 1
    · subst e; exact Nat.le_refl _
    · have := ih (by omega)
      rw [cu_s]; omega
theorem cu_val (T : Nat) : ∀ m, cu T m = 16384 * cB T m + T % 2 ^ m := by
  intro m
  induction m with
  | zero => rw [Nat.pow_zero, Nat.mod_one]; rfl
  | succ m ih =>
    rw [cu_s, ih, Nat.mod_pow_succ]
    show _ = 16384 * (cB T m + tB T m) + _
    have hm := Nat.mod_lt (T / 2 ^ m) (show 0 < 2 by omega)
    unfold tB
    rw [Nat.testBit_eq_decide_div_mod_eq]
    by_cases h : T / 2 ^ m % 2 = 1
    · rw [decide_eq_true h, if_pos rfl, h, Nat.mul_one]
      show _ = 16384 * (cB T m + 1) + _
      rw [Nat.mul_add]; omega
    · rw [decide_eq_false h, if_neg (by decide), show T / 2 ^ m % 2 = 0 by omega, Nat.mul_zero]
      rfl
theorem cu_or {T x : Nat} (hx : T.testBit x = false) : ∀ m, x < m → cu (T ||| 2 ^ x) m = cu T m + 16384 + 2 ^ x := by
  have tb : ∀ i, (T ||| 2 ^ x).testBit i = if i = x then true else T.testBit i := fun i => by
    rw [Nat.testBit_or, Nat.testBit_two_pow]
    by_cases e : i = x
    · subst e; rw [if_pos rfl]; simp
    · rw [if_neg e, decide_eq_false (fun z => e z.symm), Bool.or_false]
  have lo : ∀ m, m ≤ x → cu (T ||| 2 ^ x) m = cu T m := by
    intro m
    induction m with
    | zero => intro _; rfl
    | succ m ih => intro hm; rw [cu_s, cu_s, ih (by omega), tb, if_neg (show ¬ m = x by omega)]
  intro m
  induction m with
  | zero => intro h; omega
  | succ m ih =>
    intro hm
    rw [cu_s, cu_s]
    by_cases e : m = x
    · subst e
      rw [lo m (Nat.le_refl _), tb, if_pos rfl, hx, if_pos rfl, if_neg (by decide)]; omega
    · rw [ih (by omega), tb, if_neg e]; omega
/-- one row of the class's table, from the last day back -/
def dmr (S N P : Nat) (f : Nat → Nat) : Nat → Nat
  | 0 => 0
  | j + 1 => if S.testBit (N - (j + 1)) = true then min (f (N - min N (N - (j + 1) + P))) (dmr S N P f j + (16384 + 2 ^ (N - (j + 1)))) else dmr S N P f j
def dm (S N P : Nat) : Nat → Nat → Nat
  | 0 => fun _ => 16777216
  | n + 1 => dmr S N P (dm S N P n)
theorem dmr_s (S N P : Nat) (f : Nat → Nat) (j : Nat) : dmr S N P f (j + 1) = if S.testBit (N - (j + 1)) = true then min (f (N - min N (N - (j + 1) + P))) (dmr S N P f j + (16384 + 2 ^ (N - (j + 1)))) else dmr S N P f j := rfl
theorem dmr_le (S N P : Nat) (hN : N ≤ 14) (f : Nat → Nat) : ∀ j, j ≤ N → dmr S N P f j ≤ j * 32768 := by
  intro j
  induction j with
  | zero => intro _; exact Nat.le_refl _
  | succ j ih =>
    intro h
    have := ih (by omega)
    have hp : 2 ^ (N - (j + 1)) ≤ 2 ^ 14 := Nat.pow_le_pow_right (by omega) (by omega)
    rw [dmr_s, Nat.succ_mul]
    split
    · have h4 := Nat.min_le_right (f (N - min N (N - (j + 1) + P))) (dmr S N P f j + (16384 + 2 ^ (N - (j + 1))))
      refine Nat.le_trans h4 (Nat.add_le_add this (Nat.add_le_add (show 16384 ≤ 16384 from Nat.le_refl _) hp))
    · exact Nat.le_trans this (Nat.le_add_right _ _)
theorem gs_at {S N P n x : Nat} (hP : 1 ≤ P) (hN : N ≤ 14) (hx : x < N) : gs S N P 100 n x = if S.testBit x = true then (if n = 1 then x + 1 else gs S N P 100 (n - 1) (x + P)) else gs S N P 100 n (x + 1) := by
  have e : gs S N P 100 n x = if S.testBit x = true then (if n = 1 then x + 1 else gs S N P 99 (n - 1) (x + P)) else gs S N P 99 n (x + 1) := by
    show (if x < N then _ else _) = _
    rw [if_pos hx]
  rw [e, gs_fuel hP 99 100 _ _ (by omega) (by omega), gs_fuel hP 99 100 n (x + 1) (by omega) (by omega)]
/-- no set of days that stops the chain costs less -/
theorem dm_low {S N P : Nat} (hP : 1 ≤ P) (hN : N ≤ 14) : ∀ n j T, 1 ≤ n → j ≤ N → gs (nd S T) N P 100 n (N - j) = 0 → dm S N P n j + cu T (N - j) ≤ cu T N := by
  intro n
  induction n with
  | zero => intro j T h; omega
  | succ n ihn =>
    intro j
    induction j with
    | zero => intro T _ _ _; show 0 + cu T (N - 0) ≤ _; rw [Nat.sub_zero]; omega
    | succ j ihj =>
      intro T h1 h2 h3
      have hx : N - (j + 1) < N := by omega
      have ex : N - j = N - (j + 1) + 1 := by omega
      rw [gs_at hP hN hx, nd_bit] at h3
      show dmr S N P (dm S N P n) (j + 1) + _ ≤ _
      have ihj' := ihj T (by omega) (by omega)
      rw [ex, cu_s] at ihj'
      have ihj2 : gs (nd S T) N P 100 (n + 1) (N - (j + 1) + 1) = 0 → dmr S N P (dm S N P n) j + (cu T (N - (j + 1)) + if T.testBit (N - (j + 1)) = true then 16384 + 2 ^ (N - (j + 1)) else 0) ≤ cu T N := ihj'
      rw [dmr_s]
      by_cases hs : S.testBit (N - (j + 1)) = true
      · rw [if_pos hs]
        by_cases ht : T.testBit (N - (j + 1)) = true
        · rw [hs, ht, if_neg (by decide)] at h3
          have := ihj2 h3
          rw [if_pos ht] at this
          have := Nat.min_le_right (dm S N P n (N - min N (N - (j + 1) + P))) (dmr S N P (dm S N P n) j + (16384 + 2 ^ (N - (j + 1))))
          omega
        · rw [hs, show T.testBit (N - (j + 1)) = false by simpa using ht, if_pos (by decide)] at h3
          by_cases hn : n = 0
          · subst hn; rw [if_pos rfl] at h3; cases h3
          · rw [if_neg (by omega), Nat.add_sub_cancel] at h3
            have hl := Nat.min_le_left (dm S N P n (N - min N (N - (j + 1) + P))) (dmr S N P (dm S N P n) j + (16384 + 2 ^ (N - (j + 1))))
            by_cases hq : N - (j + 1) + P ≤ N
            · rw [Nat.min_eq_right hq] at hl ⊢
              have := ihn (N - (N - (j + 1) + P)) T (by omega) (by omega) (by rw [show N - (N - (N - (j + 1) + P)) = N - (j + 1) + P by omega]; exact h3)
              rw [show N - (N - (N - (j + 1) + P)) = N - (j + 1) + P by omega] at this
              have := cu_mono T (show N - (j + 1) ≤ N - (j + 1) + P by omega)
              omega
            · rw [Nat.min_eq_left (show N ≤ N - (j + 1) + P by omega), Nat.sub_self] at hl ⊢
              have z : dm S N P n 0 = 0 := by
                obtain ⟨m, rfl⟩ : ∃ m, n = m + 1 := ⟨n - 1, by omega⟩
                rfl
              have := cu_mono T (show N - (j + 1) ≤ N by omega)
              omega
      · rw [if_neg hs]
        rw [show S.testBit (N - (j + 1)) = false by simpa using hs, Bool.false_and, if_neg (by decide)] at h3
        have := ihj2 h3
        omega
/-- and one costs so much -/
theorem dm_has {S N P : Nat} (hP : 1 ≤ P) (hN : N ≤ 14) : ∀ n j, 1 ≤ n → j ≤ N → ∃ T, (∀ i, T.testBit i = true → N - j ≤ i ∧ i < N) ∧ cu T N = dm S N P n j ∧ gs (nd S T) N P 100 n (N - j) = 0 := by
  have c0 : ∀ m, cu 0 m = 0 := by
    intro m
    induction m with
    | zero => rfl
    | succ m ih => rw [cu_s, ih, Nat.zero_testBit]; rfl
  intro n
  induction n with
  | zero => intro j h; omega
  | succ n ihn =>
    intro j
    induction j with
    | zero =>
      intro _ _
      refine ⟨0, fun i hi => (by rw [Nat.zero_testBit] at hi; cases hi), c0 N, ?_⟩
      rw [Nat.sub_zero]; exact gs_big (Nat.le_refl _)
    | succ j ihj =>
      intro h1 h2
      obtain ⟨T, t1, t2, t3⟩ := ihj (by omega) (by omega)
      have hx : N - (j + 1) < N := by omega
      have ex : N - j = N - (j + 1) + 1 := by omega
      rw [ex] at t1 t3
      have t2' : cu T N = dmr S N P (dm S N P n) j := t2
      show ∃ T, _ ∧ cu T N = dmr S N P (dm S N P n) (j + 1) ∧ _
      rw [dmr_s]
      by_cases hs : S.testBit (N - (j + 1)) = true
      · rw [if_pos hs]
        have hT : T.testBit (N - (j + 1)) = false := by
          cases q : T.testBit (N - (j + 1)) with
          | false => rfl
          | true => have := (t1 _ q).1; omega
        have right : ∃ T, (∀ i, T.testBit i = true → N - (j + 1) ≤ i ∧ i < N) ∧ cu T N = dmr S N P (dm S N P n) j + (16384 + 2 ^ (N - (j + 1))) ∧ gs (nd S T) N P 100 (n + 1) (N - (j + 1)) = 0 := by
          refine ⟨T ||| 2 ^ (N - (j + 1)), fun i hi => ?_, ?_, ?_⟩
          · rw [Nat.testBit_or, Nat.testBit_two_pow, Bool.or_eq_true, decide_eq_true_eq] at hi
            rcases hi with hi | hi
            · have := t1 i hi; omega
            · omega
          · rw [cu_or hT N hx, t2']; omega
          · rw [gs_at hP hN hx, nd_bit, Nat.testBit_or, Nat.testBit_two_pow, if_neg (by simp)]
            have hc : ∀ F n y, N - (j + 1) < y → gs (nd S (T ||| 2 ^ (N - (j + 1)))) N P F n y = gs (nd S T) N P F n y := by
              intro F
              induction F with
              | zero => intro n y _; rfl
              | succ F ih =>
                intro n y hy
                have e : (nd S (T ||| 2 ^ (N - (j + 1)))).testBit y = (nd S T).testBit y := by
                  rw [nd_bit, nd_bit, Nat.testBit_or, Nat.testBit_two_pow, decide_eq_false (show ¬ N - (j + 1) = y by omega), Bool.or_false]
                unfold gs
                rw [e, ih (n - 1) (y + P) (by omega), ih n (y + 1) (by omega)]
            rw [hc 100 (n + 1) _ (by omega)]
            exact t3
        by_cases hm : dm S N P n (N - min N (N - (j + 1) + P)) ≤ dmr S N P (dm S N P n) j + (16384 + 2 ^ (N - (j + 1)))
        · rw [Nat.min_eq_left hm]
          by_cases hn : n = 0
          · subst hn
            have h3 := dmr_le S N P hN (dm S N P 0) j (by omega)
            have h4 : 2 ^ (N - (j + 1)) ≤ 2 ^ 14 := Nat.pow_le_pow_right (by omega) (by omega)
            have h5 : dm S N P 0 (N - min N (N - (j + 1) + P)) = 16777216 := rfl
            omega
          · obtain ⟨T2, u1, u2, u3⟩ := ihn (N - min N (N - (j + 1) + P)) (by omega) (by omega)
            have e2 : N - (N - min N (N - (j + 1) + P)) = min N (N - (j + 1) + P) := by omega
            rw [e2] at u1 u3
            have hmin : N - (j + 1) < min N (N - (j + 1) + P) := by omega
            refine ⟨T2, fun i hi => ?_, u2, ?_⟩
            · have := u1 i hi; omega
            · have hT2 : T2.testBit (N - (j + 1)) = false := by
                cases q : T2.testBit (N - (j + 1)) with
                | false => rfl
                | true => have := (u1 _ q).1; omega
              rw [gs_at hP hN hx, nd_bit, hs, hT2, if_pos (by decide), if_neg (by omega), Nat.add_sub_cancel]
              by_cases hq : N - (j + 1) + P ≤ N
              · rw [Nat.min_eq_right hq] at u3; exact u3
              · exact gs_big (by omega)
        · rw [Nat.min_eq_right (by omega)]
          exact right
      · rw [if_neg hs]
        refine ⟨T, fun i hi => ?_, t2', ?_⟩
        · have := t1 i hi; omega
        · rw [gs_at hP hN hx, nd_bit, show S.testBit (N - (j + 1)) = false by simpa using hs, Bool.false_and, if_neg (by decide)]
          exact t3
