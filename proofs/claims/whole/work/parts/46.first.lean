/-! PLANS: the first plan of the best worth, day by day -/
theorem fdW_ge {can : Nat → Bool} {nx : Nat → Nat × Int32} {u : Nat → Nat} {acc : Nat × Int32} : ∀ n, acc.1 ≤ (fdW can nx u acc n).1 ∧ ∀ b, b < n → can b = true → u b + (nx b).1 ≤ (fdW can nx u acc n).1 := by
  intro n
  induction n with
  | zero => exact ⟨Nat.le_refl _, fun b hb => by omega⟩
  | succ n ih =>
    obtain ⟨h1, h2⟩ := ih
    rw [fdW_s]
    have st : (fdW can nx u acc n).1 ≤ (stW (u n) (fdW can nx u acc n) (nx n)).1 ∧ u n + (nx n).1 ≤ (stW (u n) (fdW can nx u acc n) (nx n)).1 := by
      refine ⟨(stW_le _ _ _).1, ?_⟩
      unfold stW
      split
      · exact Nat.le_refl _
      · split
        · show _ ≤ (fdW can nx u acc n).1; omega
        · omega
    by_cases c : can n = true
    · rw [if_pos c]
      refine ⟨by omega, fun b hb hc => ?_⟩
      by_cases e : b = n
      · subst e; exact st.2
      · have := h2 b (by omega) hc; omega
    · rw [if_neg c]
      refine ⟨h1, fun b hb hc => ?_⟩
      by_cases e : b = n
      · subst e; exact absurd hc c
      · exact h2 b (by omega) hc
theorem fdW_ex {can : Nat → Bool} {nx : Nat → Nat × Int32} {u : Nat → Nat} {acc : Nat × Int32} : ∀ n, (fdW can nx u acc n).1 = acc.1 ∨ ∃ b, b < n ∧ can b = true ∧ u b + (nx b).1 = (fdW can nx u acc n).1 := by
  intro n
  induction n with
  | zero => exact Or.inl rfl
  | succ n ih =>
    rw [fdW_s]
    by_cases c : can n = true
    · rw [if_pos c]
      unfold stW
      split
      · exact Or.inr ⟨n, by omega, c, rfl⟩
      · have go : (fdW can nx u acc n).1 = acc.1 ∨ ∃ b, b < n + 1 ∧ can b = true ∧ u b + (nx b).1 = (fdW can nx u acc n).1 := by
          rcases ih with h | ⟨b, h1, h2, h3⟩
          · exact Or.inl h
          · exact Or.inr ⟨b, by omega, h2, h3⟩
        split
        · exact go
        · exact go
    · rw [if_neg c]
      rcases ih with h | ⟨b, h1, h2, h3⟩
      · exact Or.inl h
      · exact Or.inr ⟨b, by omega, h2, h3⟩
/-- the least below n with p, one more; 0 for none -/
def fsF (p : Nat → Bool) : Nat → Nat
  | 0 => 0
  | n + 1 => if fsF p n = 0 then (if p n = true then n + 1 else 0) else fsF p n
theorem fsF_0 {p : Nat → Bool} : ∀ n, fsF p n = 0 ↔ ∀ b, b < n → p b = false := by
  intro n
  induction n with
  | zero => exact ⟨fun _ b hb => by omega, fun _ => rfl⟩
  | succ n ih =>
    unfold fsF
    constructor
    · intro h b hb
      by_cases c : fsF p n = 0
      · rw [if_pos c] at h
        by_cases e : b = n
        · subst e
          by_cases d : p b = true
          · rw [if_pos d] at h; omega
          · simpa using d
        · exact ih.mp c b (by omega)
      · rw [if_neg c] at h; exact absurd h c
    · intro h
      rw [if_pos (ih.mpr (fun b hb => h b (by omega))), h n (by omega), if_neg (by decide)]
theorem fsF_s {p : Nat → Bool} {b : Nat} : ∀ n, fsF p n = b + 1 ↔ (b < n ∧ p b = true ∧ ∀ c, c < b → p c = false) := by
  intro n
  induction n with
  | zero => exact ⟨fun h => (by cases h), fun h => (by omega)⟩
  | succ n ih =>
    unfold fsF
    by_cases c : fsF p n = 0
    · have h0 := (fsF_0 n).mp c
      rw [if_pos c]
      by_cases d : p n = true
      · rw [if_pos d]
        constructor
        · intro h
          have e : b = n := by omega
          subst e
          exact ⟨by omega, d, h0⟩
        · rintro ⟨h1, h2, h3⟩
          by_cases e : b = n
          · rw [e]
          · rw [h0 b (by omega)] at h2; cases h2
      · rw [if_neg d]
        constructor
        · intro h; omega
        · rintro ⟨h1, h2, h3⟩
          by_cases e : b = n
          · subst e; exact absurd h2 d
          · rw [h0 b (by omega)] at h2; cases h2
    · rw [if_neg c, ih]
      constructor
      · rintro ⟨h1, h2, h3⟩; exact ⟨by omega, h2, h3⟩
      · rintro ⟨h1, h2, h3⟩
        by_cases e : b = n
        · subst e
          exact absurd ((fsF_0 b).mpr h3) c
        · exact ⟨by omega, h2, h3⟩
/-- bill b is asked for on day x in a plan of the best worth -/
def PL.eqb (p : PL) (x s b : Nat) : Bool := p.can x s b && decide (p.u b + (p.W (x + p.G) (s ||| 2 ^ b)).1 = (p.W x s).1)
/-- the first bill so, one more; 0 where the day may be left alone -/
def PL.fb (p : PL) (x s : Nat) : Nat := if x < p.N then (if (p.W (x + 1) s).1 = (p.W x s).1 then 0 else fsF (p.eqb x s) 8) else 0
theorem PL.fb_0 (p : PL) (hG : 1 ≤ p.G) {x s : Nat} (hx : x < p.N) : p.fb x s = 0 ↔ (p.W (x + 1) s).1 = (p.W x s).1 := by
  unfold PL.fb
  rw [if_pos hx]
  by_cases c : (p.W (x + 1) s).1 = (p.W x s).1
  · rw [if_pos c]; exact ⟨fun _ => c, fun _ => rfl⟩
  · rw [if_neg c]
    refine ⟨fun h => ?_, fun h => absurd h c⟩
    rcases fdW_ex (can := p.can x s) (nx := fun b => p.W (x + p.G) (s ||| 2 ^ b)) (u := p.u) (acc := p.W (x + 1) s) 8 with h1 | ⟨b, h1, h2, h3⟩
    · rw [← p.W_at hG hx] at h1; exact h1.symm
    · rw [← p.W_at hG hx] at h3
      have := (fsF_0 8).mp h b h1
      unfold PL.eqb at this
      rw [h2, decide_eq_true h3] at this
      cases this
theorem PL.fb_s (p : PL) {x s b : Nat} (hx : x < p.N) (h : p.fb x s = b + 1) : b < 8 ∧ p.can x s b = true ∧ p.u b + (p.W (x + p.G) (s ||| 2 ^ b)).1 = (p.W x s).1 ∧ (∀ c, c < b → p.eqb x s c = false) ∧ (p.W (x + 1) s).1 ≠ (p.W x s).1 := by
  unfold PL.fb at h
  rw [if_pos hx] at h
  by_cases c : (p.W (x + 1) s).1 = (p.W x s).1
  · rw [if_pos c] at h; cases h
  · rw [if_neg c] at h
    obtain ⟨h1, h2, h3⟩ := (fsF_s 8).mp h
    unfold PL.eqb at h2
    rw [Bool.and_eq_true, decide_eq_true_eq] at h2
    exact ⟨h1, h2.1, h2.2, h3, c⟩
/-- the bill of the first plan on day y, one more, from day x on with s passed -/
def PL.bip (p : PL) : Nat → Nat → Nat → Nat → Nat
  | 0, _, _, _ => 0
  | F + 1, x, s, y => if x < y then (if p.fb x s = 0 then p.bip F (x + 1) s y else p.bip F (x + p.G) (s ||| 2 ^ (p.fb x s - 1)) y) else if x = y then p.fb x s else 0
theorem PL.bip_fuel (p : PL) (hG : 1 ≤ p.G) {y : Nat} : ∀ F E x s, y < x + F → y < x + E → p.bip F x s y = p.bip E x s y := by
  intro F
  induction F with
  | zero =>
    intro E x s h1 h2
    cases E with
    | zero => rfl
    | succ E => unfold PL.bip; rw [if_neg (by omega), if_neg (by omega)]
  | succ F ih =>
    intro E x s h1 h2
    cases E with
    | zero => unfold PL.bip; rw [if_neg (by omega), if_neg (by omega)]
    | succ E =>
      unfold PL.bip
      rw [ih E (x + 1) s (by omega) (by omega), ih E (x + p.G) _ (by omega) (by omega)]
/-- a day that the first plan leaves alone may be taken: as much is left -/
theorem PL.W_taken {p q : PL} (hN : q.N = p.N) (hG : q.G = p.G) (hG1 : 1 ≤ p.G) (hu : ∀ b, q.u b = p.u b) {d : Nat} (hc : ∀ x s b, x ≠ d → q.can x s b = p.can x s b) : ∀ F x s, p.N - x ≤ F → p.bip (d + 1) x s d = 0 → (p.W x s).1 ≤ (q.W x s).1 := by
  intro F
  induction F with
  | zero => intro x s h1 _; rw [p.W_big (by omega)]; exact Nat.zero_le _
  | succ F ih =>
    intro x s h1 h2
    by_cases hx : x < p.N
    · have hq := q.W_at (by omega) (show x < q.N by omega) (s := s)
      have hge := fdW_ge (can := q.can x s) (nx := fun b => q.W (x + q.G) (s ||| 2 ^ b)) (u := q.u) (acc := q.W (x + 1) s) 8
      rw [← hq] at hge
      cases e : p.fb x s with
      | zero =>
        have e1 := (p.fb_0 hG1 hx).mp e
        have i1 := ih (x + 1) s (by omega) (by
          unfold PL.bip at h2
          by_cases c : x < d
          · rw [if_pos c, if_pos e] at h2
            rw [p.bip_fuel hG1 (d + 1) d (x + 1) s (by omega) (by omega)]
            exact h2
          · unfold PL.bip; rw [if_neg (by omega), if_neg (by omega)])
        have := hge.1
        omega
      | succ b =>
        obtain ⟨b8, f1, f2, _, _⟩ := p.fb_s hx e
        have hxd : x ≠ d := fun z => by
          subst z
          unfold PL.bip at h2
          rw [if_neg (by omega), if_pos rfl, e] at h2
          cases h2
        have i1 := ih (x + p.G) (s ||| 2 ^ b) (by omega) (by
          unfold PL.bip at h2
          by_cases c : x < d
          · rw [if_pos c, if_neg (by omega), e, Nat.add_sub_cancel] at h2
            rw [p.bip_fuel hG1 (d + 1) d (x + p.G) _ (by omega) (by omega)]
            exact h2
          · unfold PL.bip; rw [if_neg (by omega), if_neg (by omega)])
        have h3 := hge.2 b b8 (by rw [hc x s b hxd]; exact f1)
        have h4 : (q.W (x + q.G) (s ||| 2 ^ b)).1 = (q.W (x + p.G) (s ||| 2 ^ b)).1 := by rw [hG]
        have h5 := hu b
        have h6 : q.u b + (q.W (x + q.G) (s ||| 2 ^ b)).1 ≤ (q.W x s).1 := h3
        omega
    · rw [p.W_big (by omega)]; exact Nat.zero_le _
