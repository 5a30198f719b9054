/-! PLANS: the best worth and the ways to it, over sets of bills -/
/-- one more bill tried -/
def stW (v : Nat) (acc nx : Nat × Int32) : Nat × Int32 :=
  if acc.1 < v + nx.1 then (v + nx.1, 0 + nx.2) else if v + nx.1 = acc.1 then (acc.1, acc.2 + nx.2) else acc
/-- the bills below n tried in turn -/
def fdW (can : Nat → Bool) (nx : Nat → Nat × Int32) (u : Nat → Nat) (acc : Nat × Int32) : Nat → Nat × Int32
  | 0 => acc
  | b + 1 => if can b = true then stW (u b) (fdW can nx u acc b) (nx b) else fdW can nx u acc b
theorem fdW_s (can : Nat → Bool) (nx : Nat → Nat × Int32) (u : Nat → Nat) (acc : Nat × Int32) (b : Nat) : fdW can nx u acc (b + 1) = if can b = true then stW (u b) (fdW can nx u acc b) (nx b) else fdW can nx u acc b := rfl
theorem fdW_congr {can can' : Nat → Bool} {nx nx' : Nat → Nat × Int32} {u u' : Nat → Nat} {acc : Nat × Int32} : ∀ n, (∀ b, b < n → can b = can' b ∧ (can b = true → nx b = nx' b ∧ u b = u' b)) → fdW can nx u acc n = fdW can' nx' u' acc n := by
  intro n
  induction n with
  | zero => intro _; rfl
  | succ n ih =>
    intro h
    obtain ⟨h1, h2⟩ := h n (by omega)
    rw [fdW_s, fdW_s, ih (fun b hb => h b (by omega)), ← h1]
    by_cases c : can n = true
    · rw [if_pos c, if_pos c, (h2 c).1, (h2 c).2]
    · rw [if_neg c, if_neg c]
/-- what is to be known of a planning: days, the pause, which bill may be asked for when, before which, its worth -/
def PL : Type := Nat × Nat × (Nat → Nat → Bool) × (Nat → Nat) × (Nat → Nat)
def PL.N (p : PL) : Nat := p.1
def PL.G (p : PL) : Nat := p.2.1
def PL.op (p : PL) : Nat → Nat → Bool := p.2.2.1
def PL.pre (p : PL) : Nat → Nat := p.2.2.2.1
def PL.u (p : PL) : Nat → Nat := p.2.2.2.2
def mkP (N G : Nat) (op : Nat → Nat → Bool) (pre u : Nat → Nat) : PL := (N, G, op, pre, u)
def PL.can (p : PL) (x s b : Nat) : Bool := p.op b x && (!s.testBit b && (decide (p.pre b = 0) || s.testBit (p.pre b - 1)))
def PL.Wf (p : PL) : Nat → Nat → Nat → Nat × Int32
  | 0, _, _ => (0, 1)
  | F + 1, x, s => if x < p.N then fdW (p.can x s) (fun b => p.Wf F (x + p.G) (s ||| 2 ^ b)) p.u (p.Wf F (x + 1) s) 8 else (0, 1)
theorem PL.Wf_fuel (p : PL) (hG : 1 ≤ p.G) : ∀ F E x s, p.N - x ≤ F → p.N - x ≤ E → p.Wf F x s = p.Wf E x s := by
  intro F
  induction F with
  | zero =>
    intro E x s h1 h2
    cases E with
    | zero => rfl
    | succ E => unfold PL.Wf; rw [if_neg (by omega)]
  | succ F ih =>
    intro E x s h1 h2
    cases E with
    | zero => unfold PL.Wf; rw [if_neg (by omega)]
    | succ E =>
      unfold PL.Wf
      by_cases hx : x < p.N
      · rw [if_pos hx, if_pos hx, ih E (x + 1) s (by omega) (by omega)]
        exact fdW_congr 8 (fun b hb => ⟨rfl, fun _ => ⟨ih E (x + p.G) _ (by omega) (by omega), rfl⟩⟩)
      · rw [if_neg hx, if_neg hx]
def PL.W (p : PL) (x s : Nat) : Nat × Int32 := p.Wf p.N x s
theorem PL.W_big (p : PL) {x s : Nat} (h : p.N ≤ x) : p.W x s = (0, 1) := by
  unfold PL.W
  cases e : p.N with
  | zero => rfl
  | succ n => unfold PL.Wf; rw [if_neg (by omega)]
theorem PL.W_at (p : PL) (hG : 1 ≤ p.G) {x s : Nat} (h : x < p.N) : p.W x s = fdW (p.can x s) (fun b => p.W (x + p.G) (s ||| 2 ^ b)) p.u (p.W (x + 1) s) 8 := by
  have e : p.W x s = p.Wf (p.N + 1) x s := p.Wf_fuel hG _ _ _ _ (by omega) (by omega)
  rw [e]
  show (if x < p.N then _ else _) = _
  rw [if_pos h]
  rfl
theorem stW_le (v : Nat) (acc nx : Nat × Int32) : acc.1 ≤ (stW v acc nx).1 ∧ (stW v acc nx).1 ≤ max acc.1 (v + nx.1) := by
  unfold stW
  by_cases h1 : acc.1 < v + nx.1
  · rw [if_pos h1]
    exact ⟨Nat.le_of_lt h1, Nat.le_max_right _ _⟩
  · rw [if_neg h1]
    split
    · exact ⟨Nat.le_refl _, Nat.le_max_left _ _⟩
    · exact ⟨Nat.le_refl _, Nat.le_max_left _ _⟩
/-- no plan is worth more than all its bills' days -/
theorem PL.W_le (p : PL) (hu : ∀ b, b < 8 → p.u b ≤ 99) : ∀ F x s, (p.Wf F x s).1 ≤ 99 * F := by
  intro F
  induction F with
  | zero => intro x s; exact Nat.le_refl _
  | succ F ih =>
    intro x s
    unfold PL.Wf
    by_cases hx : x < p.N
    · rw [if_pos hx]
      have L : ∀ n, n ≤ 8 → (fdW (p.can x s) (fun b => p.Wf F (x + p.G) (s ||| 2 ^ b)) p.u (p.Wf F (x + 1) s) n).1 ≤ 99 * (F + 1) := by
        intro n
        induction n with
        | zero => intro _; have := ih (x + 1) s; show (p.Wf F (x + 1) s).1 ≤ _; omega
        | succ n ihn =>
          intro hn
          have h1 := ihn (by omega)
          rw [fdW_s]
          split
          · have h2 := (stW_le (p.u n) (fdW (p.can x s) (fun b => p.Wf F (x + p.G) (s ||| 2 ^ b)) p.u (p.Wf F (x + 1) s) n) (p.Wf F (x + p.G) (s ||| 2 ^ n))).2
            have h3 := ih (x + p.G) (s ||| 2 ^ n)
            have h4 := hu n (by omega)
            refine Nat.le_trans h2 (Nat.max_le.mpr ⟨h1, by omega⟩)
          · exact h1
      exact L 8 (Nat.le_refl _)
    · rw [if_neg hx]; exact Nat.zero_le _
section PLC
variable {k : Nat} {K : Nat → Nat}
/-- the class's planner has been laid for p -/
def PX (p : PL) (fr : Nat) (w : HW) : Prop :=
  gI w 11 5 = nI fr ∧ gI w 11 6 = nI p.N ∧ gI w 11 7 = nI p.G ∧
  (∀ x, x < p.N → gI w 16 x = nI (bS (fun b => p.op b x) 8)) ∧
  (∀ b x, x < p.N → p.op b x = true → b < 8 ∧ gI w 15 b = nI (if p.pre b = 0 then 0 else 2 ^ (p.pre b - 1)) ∧ gI w 14 b = nI (p.u b))
end PLC
