/-! SEASON, the class's play -/
/-- the class's code of a day's act -/
def c9 (x : Nat) : Int32 := if x = 0 then -2 else aI (x - 1)
section PLX
variable {w : HW} {k : Nat} {K : Nat → Nat}
theorem whyNot_ok (H : CC w k K) (W : WF K) (h10 : gI w 10 0 = nI (clr K 0) ∧ gI w 10 1 = nI (clr K 1)) {V : Nat → Nat} (h7 : ∀ b, b < 8 → gI w 7 b = aI (V b)) (hV : ∀ b, V b < 100) {b d : Nat} (hb5 : b < K 5) (hd : d < K 0) (ok : Bool) : fX6_whyNot w k (nI b) (nI d) (b01 ok) = some (nI (whyF K V b d ok)) := by
  have hb := W.b
  have hB := W.bil hb5
  have hm := lt31 W W.mk
  unfold fX6_whyNot
  rw [if_b01']
  cases ok with
  | false => rfl
  | true =>
    rw [if_pos rfl, H.c5, holds_ok w hm (by omega), bI_some, if_b01]
    unfold whyF
    rw [if_neg (show ¬ (true = false) by decide)]
    by_cases c1 : (K 8).testBit d = true
    · rw [if_pos c1, if_pos c1]; rfl
    · have h10' : gI w 10 (K (33 + 3 * b)) = nI (clr K (K (33 + 3 * b))) := by
        rcases (show K (33 + 3 * b) = 0 ∨ K (33 + 3 * b) = 1 by omega) with e | e <;> rw [e]
        · exact h10.1
        · exact h10.2
      have hc : (clr K (K (33 + 3 * b))).testBit d = !((sky K (1 - K (33 + 3 * b))).testBit d) := by
        unfold clr
        rw [nd_bit, nd_bit, Nat.testBit_two_pow_sub_one, decide_eq_true hd, show (K 8).testBit d = false by simpa using c1]
        rfl
      have hcl : clr K (K (33 + 3 * b)) < 2 ^ 31 := lt31 W (nd_lt (nd_lt (by have := Nat.two_pow_pos (K 0); omega)))
      rw [if_neg c1, if_neg c1, if_pos (inB_nI (by omega) (by omega)), ix_nI (by omega), (H.bil hb5).1, if_pos (inB_nI (by omega) (by omega)), ix_nI (by omega), h10', holds_ok w hcl (by omega), bI_some, if_b01', hc]
      by_cases c2 : (sky K (1 - K (33 + 3 * b))).testBit d = true
      · rw [c2, if_neg (by decide), if_pos rfl]; rfl
      · rw [show (sky K (1 - K (33 + 3 * b))).testBit d = false by simpa using c2, if_pos (show (!false) = true by decide), if_neg (show ¬ (false = true) by decide), if_pos (inB_nI (by omega) (by omega)), (H.bil hb5).2.2]
        have hp : fX6_hasPassedAhead w (aI (K (35 + 3 * b))) (nI d) = some (b01 (decide (K (35 + 3 * b) = 0 ∨ (0 < V (K (35 + 3 * b) - 1) ∧ V (K (35 + 3 * b) - 1) - 1 < d)))) := by
          unfold fX6_hasPassedAhead
          by_cases c3 : K (35 + 3 * b) = 0
          · rw [if_neg (fun z => z ((aI_m1 (by omega)).mpr c3)), decide_eq_true (Or.inl c3)]; rfl
          · obtain ⟨a, ha⟩ : ∃ a, K (35 + 3 * b) = a + 1 := ⟨K (35 + 3 * b) - 1, by omega⟩
            have hVa := hV a
            rw [if_pos (fun z => c3 ((aI_m1 (by omega)).mp z)), ha, aI_s, if_pos (inB_nI (by omega) (by omega)), if_pos (inB_nI (by omega) (by omega)), ix_nI (by omega), h7 a (by omega), Nat.add_sub_cancel]
            by_cases c4 : V a = 0
            · rw [c4, if_neg (fun z => z rfl), decide_eq_false (by omega)]; rfl
            · obtain ⟨y, hy⟩ : ∃ y, V a = y + 1 := ⟨V a - 1, by omega⟩
              rw [hy, aI_s, if_pos (nI_ne_m1 (by omega)), Nat.add_sub_cancel]
              by_cases c5 : y < d
              · rw [if_pos (nI_lt c5 (by omega)), decide_eq_true (by omega)]; rfl
              · rw [if_neg (nI_nlt (by omega) (by omega)), decide_eq_false (by omega)]; rfl
        rw [hp, bI_some, if_b01]
        by_cases c3 : K (35 + 3 * b) = 0
        · rw [if_pos c3, decide_eq_true (Or.inl c3), if_pos rfl]; rfl
        · rw [if_neg c3]
          by_cases c4 : 0 < V (K (35 + 3 * b) - 1) ∧ V (K (35 + 3 * b) - 1) - 1 < d
          · rw [if_pos c4, decide_eq_true (Or.inr c4), if_pos rfl]; rfl
          · rw [if_neg c4, decide_eq_false (by omega), if_neg (by decide)]; rfl
/-- what the class has written before the day i -/
def CS (K : Nat → Nat) (dr : Bool) (s0 : Int64) (w : HW) (i : Nat) : Prop :=
  (∀ d, d < i → gI w 5 d = nI (huF K d)) ∧ (∀ b, b < 8 → gI w 7 b = aI ((sea K dr s0 i).1 b)) ∧ (∀ d, d < 14 → gI w 9 d = c9 (aD K d)) ∧
  (gI w 10 0 = nI (clr K 0) ∧ gI w 10 1 = nI (clr K 1)) ∧ (∀ b, b < 8 → gI w 6 b = if aB K b ≤ i then aI (aB K b) else -1) ∧
  (∀ b, b < 8 → gI w 8 b = if aB K b = 0 ∨ i < aB K b then -1 else nI (whyF K (sea K dr s0 (aB K b - 1)).1 b (aB K b - 1) (drw K dr (aB K b - 1) (sea K dr s0 (aB K b - 1)).2.1 (sea K dr s0 (aB K b - 1)).2.2).2.2)) ∧
  gI w 4 4 = nI (sea K dr s0 i).2.2 ∧ (dr = true → gL w 4 7 = (sea K dr s0 i).2.1)
theorem settle_ok (H : CC w k K) (hk : 26 ≤ k) (W : WF K) (h10 : gI w 10 0 = nI (clr K 0) ∧ gI w 10 1 = nI (clr K 1)) {V : Nat → Nat} (h7 : ∀ b, b < 8 → gI w 7 b = aI (V b)) (hV : ∀ b, V b < 100) {b d : Nat} (hb5 : b < K 5) (hd : d < K 0) (ok : Bool) : ∃ w', fX6_settle w k (nI b) (nI d) (b01 ok) = some w' ∧ (∀ c, c < 8 → gI w' 6 c = if c = b then nI d else gI w 6 c) ∧ (∀ c, c < 8 → gI w' 8 c = if c = b then nI (whyF K V b d ok) else gI w 8 c) ∧ (∀ c, c < 8 → gI w' 7 c = aI ((if whyF K V b d ok = 0 then updN V b (d + 1) else V) c)) ∧ (∀ a f, a ≠ 6 → a ≠ 7 → a ≠ 8 → gI w' a f = gI w a f) ∧ (∀ a f, gL w' a f = gL w a f) := by
  have hb := W.b
  have hl := whyF_le K V b d ok
  unfold fX6_settle
  rw [if_pos (inB_nI (by omega) (by omega)), ix_nI (by omega), lT_eq, whyNot_ok (H.of (fun c x y f => gI_uI_ne (by omega))) W (by rw [gI_uI_ne (by omega), gI_uI_ne (by omega)]; exact h10) (V := V) (fun c hc => by rw [gI_uI_ne (by omega)]; exact h7 c hc) hV hb5 hd ok, bI_some, if_pos (inB_nI (by omega) (by omega)), lT_eq, if_pos (inB_nI (by omega) (by omega)), gI_uI_at]
  by_cases c : whyF K V b d ok = 0
  · rw [if_pos (by rw [c]; rfl), if_pos (inB_nI (by omega) (by omega)), lT_eq, if_pos c]
    refine ⟨_, rfl, fun x hx => ?_, fun x hx => ?_, fun x hx => ?_, fun a f h1 h2 h3 => ?_, fun a f => rfl⟩
    · rw [gI_uI_ne (by omega), gI_uI_ne (by omega), gI_uI]
      by_cases e : x = b
      · rw [if_pos ⟨rfl, e⟩, if_pos e]
      · rw [if_neg (by omega), if_neg e]
    · rw [gI_uI_ne (by omega), gI_uI]
      by_cases e : x = b
      · rw [if_pos ⟨rfl, e⟩, if_pos e]
      · rw [if_neg (by omega), if_neg e, gI_uI_ne (by omega)]
    · rw [gI_uI]
      by_cases e : x = b
      · subst e; rw [if_pos ⟨rfl, rfl⟩, updN_at, aI_s]
      · rw [if_neg (by omega), updN_ne e, gI_uI_ne (by omega), gI_uI_ne (by omega)]; exact h7 x hx
    · rw [gI_uI_ne h2, gI_uI_ne h3, gI_uI_ne h1]
  · rw [if_neg (nI_ne0 (by omega) (by omega)), if_neg c]
    refine ⟨_, rfl, fun x hx => ?_, fun x hx => ?_, fun x hx => ?_, fun a f h1 h2 h3 => ?_, fun a f => rfl⟩
    · rw [gI_uI_ne (by omega), gI_uI]
      by_cases e : x = b
      · rw [if_pos ⟨rfl, e⟩, if_pos e]
      · rw [if_neg (by omega), if_neg e]
    · rw [gI_uI]
      by_cases e : x = b
      · rw [if_pos ⟨rfl, e⟩, if_pos e]
      · rw [if_neg (by omega), if_neg e, gI_uI_ne (by omega)]
    · rw [gI_uI_ne (by omega), gI_uI_ne (by omega)]; exact h7 x hx
    · rw [gI_uI_ne h3, gI_uI_ne h1]
theorem sea_lt (W : WF K) (dr : Bool) (s0 : Int64) {d : Nat} (b : Nat) : (sea K dr s0 d).1 b < 100 := by
  have hb := W.b
  have := sea_V W dr s0 b d
  have := aB_le W b
  omega
/-- settled on the day: what is to be shown of it -/
theorem CS.settle {dr : Bool} {s0 : Int64} {d b : Nat} (H : CC w k K) (hk : 26 ≤ k) (W : WF K) (S : CS K dr s0 w d) (hd : d < K 0) (ha : aD K d = b + 2) (w1 : HW) (h5 : ∀ a f, (a ≠ 4 ∨ f ≠ 4) → (a ≠ 5 ∨ f ≠ d) → gI w1 a f = gI w a f) (h6 : gI w1 5 d = nI (huF K d)) (h44 : gI w1 4 4 = nI (drw K dr d (sea K dr s0 d).2.1 (sea K dr s0 d).2.2).2.1) (h47 : dr = true → gL w1 4 7 = (drw K dr d (sea K dr s0 d).2.1 (sea K dr s0 d).2.2).1) : ∃ w', fX6_settle w1 k (nI b) (nI d) (b01 (drw K dr d (sea K dr s0 d).2.1 (sea K dr s0 d).2.2).2.2) = some w' ∧ CS K dr s0 w' (d + 1) ∧ (∀ a f, 26 ≤ a → gI w' a f = gI w a f) := by
  have hb := W.b
  obtain ⟨x5, x7, x9, x10, x6, x8, x4, xL⟩ := S
  have hbl : b < K 5 := by have := aD_lt W (d := d); omega
  have hB : aB K b = d + 1 := (aB_aD W).mpr ha
  obtain ⟨w', e, y6, y8, y7, yo, yl⟩ := settle_ok (w := w1) (H.of (fun c x y f => h5 c f (by omega) (by omega))) hk W (by rw [h5 _ _ (by omega) (by omega), h5 _ _ (by omega) (by omega)]; exact x10) (V := (sea K dr s0 d).1) (fun c hc => by rw [h5 _ _ (by omega) (by omega)]; exact x7 c hc) (fun c => sea_lt W dr s0 c) hbl hd (drw K dr d (sea K dr s0 d).2.1 (sea K dr s0 d).2.2).2.2
  have es : sea K dr s0 (d + 1) = (if whyF K (sea K dr s0 d).1 b d (drw K dr d (sea K dr s0 d).2.1 (sea K dr s0 d).2.2).2.2 = 0 then updN (sea K dr s0 d).1 b (d + 1) else (sea K dr s0 d).1, (drw K dr d (sea K dr s0 d).2.1 (sea K dr s0 d).2.2).1, (drw K dr d (sea K dr s0 d).2.1 (sea K dr s0 d).2.2).2.1) := by
    show stp K dr d (sea K dr s0 d) = _
    unfold stp
    rw [if_pos (by omega), ha, Nat.add_sub_cancel]
  refine ⟨w', e, ⟨fun x hx => ?_, fun c hc => ?_, fun x hx => ?_, ?_, fun c hc => ?_, fun c hc => ?_, ?_, fun h => ?_⟩, fun a f ha => ?_⟩
  · rw [yo _ _ (by omega) (by omega) (by omega)]
    by_cases c : x = d
    · subst c; exact h6
    · rw [h5 _ _ (by omega) (by omega)]; exact x5 x (by omega)
  · rw [y7 c hc, es]
  · rw [yo _ _ (by omega) (by omega) (by omega), h5 _ _ (by omega) (by omega)]; exact x9 x hx
  · rw [yo _ _ (by omega) (by omega) (by omega), yo _ _ (by omega) (by omega) (by omega), h5 _ _ (by omega) (by omega), h5 _ _ (by omega) (by omega)]; exact x10
  · rw [y6 c hc]
    by_cases e : c = b
    · subst e; rw [if_pos rfl, hB, if_pos (by omega), aI_s]
    · rw [if_neg e, h5 _ _ (by omega) (by omega), x6 c hc]
      have hne : aB K c ≠ d + 1 := fun z => by have := (aB_aD W).mp z; omega
      by_cases q : aB K c ≤ d
      · rw [if_pos q, if_pos (by omega)]
      · rw [if_neg q, if_neg (by omega)]
  · rw [y8 c hc]
    by_cases e : c = b
    · subst e; rw [if_pos rfl, hB, if_neg (by omega), Nat.add_sub_cancel]
    · rw [if_neg e, h5 _ _ (by omega) (by omega), x8 c hc]
      have hne : aB K c ≠ d + 1 := fun z => by have := (aB_aD W).mp z; omega
      by_cases q : aB K c = 0 ∨ d < aB K c
      · rw [if_pos q, if_pos (by omega)]
      · rw [if_neg q, if_neg (by omega)]
  · rw [yo _ _ (by omega) (by omega) (by omega), h44, es]
  · rw [yl, h47 h, es]
  · rw [yo _ _ (by omega) (by omega) (by omega), h5 _ _ (by omega) (by omega)]
/-- a day on which no bill is asked for -/
theorem CS.calm {dr : Bool} {s0 : Int64} {d : Nat} (W : WF K) (S : CS K dr s0 w d) (ha : aD K d < 2) (w1 : HW) (h5 : ∀ a f, (a ≠ 5 ∨ f ≠ d) → gI w1 a f = gI w a f) (h6 : gI w1 5 d = nI (huF K d)) (hl : ∀ a f, gL w1 a f = gL w a f) : CS K dr s0 w1 (d + 1) := by
  obtain ⟨x5, x7, x9, x10, x6, x8, x4, xL⟩ := S
  have es : sea K dr s0 (d + 1) = sea K dr s0 d := by
    show stp K dr d (sea K dr s0 d) = _
    unfold stp
    rw [if_neg (by omega)]
  have hne : ∀ c, aB K c ≠ d + 1 := fun c z => by have := (aB_aD W).mp z; omega
  refine ⟨fun x hx => ?_, fun c hc => ?_, fun x hx => ?_, ?_, fun c hc => ?_, fun c hc => ?_, ?_, fun h => ?_⟩
  · by_cases c : x = d
    · subst c; exact h6
    · rw [h5 _ _ (by omega)]; exact x5 x (by omega)
  · rw [h5 _ _ (by omega), es]; exact x7 c hc
  · rw [h5 _ _ (by omega)]; exact x9 x hx
  · rw [h5 _ _ (by omega), h5 _ _ (by omega)]; exact x10
  · rw [h5 _ _ (by omega), x6 c hc]
    have := hne c
    by_cases q : aB K c ≤ d
    · rw [if_pos q, if_pos (by omega)]
    · rw [if_neg q, if_neg (by omega)]
  · rw [h5 _ _ (by omega), x8 c hc]
    have := hne c
    by_cases q : aB K c = 0 ∨ d < aB K c
    · rw [if_pos q, if_pos (by omega)]
    · rw [if_neg q, if_neg (by omega)]
  · rw [h5 _ _ (by omega), es]; exact x4
  · rw [hl, es]; exact xL h
end PLX
section PLY
variable {w : HW} {k : Nat} {K : Nat → Nat}
theorem c9_ask {x : Nat} (h : 2 ≤ x) : c9 x = nI (x - 2) := by
  obtain ⟨y, rfl⟩ : ∃ y, x = y + 2 := ⟨x - 2, by omega⟩
  unfold c9
  rw [if_neg (by omega)]
  exact aI_s y
theorem c9_neg {x : Nat} (h : x < 2) : c9 x < 0 := by
  rcases (show x = 0 ∨ x = 1 by omega) with rfl | rfl <;> decide
theorem c9_none {x : Nat} (h : x < 100) : c9 x = -2 ↔ x = 0 := by
  constructor
  · intro z
    rcases (show x = 0 ∨ x = 1 ∨ 2 ≤ x by omega) with h | h | h
    · exact h
    · subst h; exact absurd z (by decide)
    · rw [c9_ask h] at z
      have := congrArg Int32.toInt z
      rw [nI_toInt (by omega)] at this
      have e : (-2 : Int32).toInt = -2 := rfl
      omega
  · rintro rfl; rfl
theorem digit_ok (K : Nat → Nat) (W : WF K) (s : Int64) : ((lRm (s / 65536) 10).toInt32 < nI (K 3)) ↔ okD K s = true := by
  have hb := W.b
  have e := lRm_0 (s / 65536) (show (10 : Int64) ≠ 0 by decide)
  have e10 : (10 : Int64).toInt = 10 := rfl
  have h1 : (lRm (s / 65536) 10).toInt.natAbs < 10 := by
    rw [e, Int.natAbs_tmod, e10]
    exact Nat.mod_lt _ (by decide)
  unfold okD
  rw [decide_eq_true_eq, lgc_lt, Int32.toInt_toInt64, fa_lt, Int64.toInt_toInt32, Int.bmod_eq_of_le (by omega) (by omega)]
theorem live57_ok {dr : Bool} {s0 : Int64} {d b : Nat} (H : CC w k K) (hk : 26 ≤ k) (W : WF K) (S : CS K dr s0 w d) (hd : d < K 0) (ha : aD K d = b + 2) (K8 : HW → Int32 → Int32 → Option HW) (hu : Int32) : ∃ w', fX6_live_57 (uI w 5 d (nI (huF K d))) K8 k (b01 dr) hu (nI d) (nI b) (b01 (decide (K 2 ≤ huF K d))) = fX6_live_97 w' K8 k (b01 dr) hu (nI d) (nI b) ∧ CS K dr s0 w' (d + 1) ∧ (∀ a f, 26 ≤ a → gI w' a f = gI w a f) := by
  have hb := W.b
  have hc := sea_c (K := K) dr s0 d
  have st := fun w1 h5 h6 h44 h47 => CS.settle (dr := dr) (s0 := s0) (b := b) H hk W S hd ha w1 h5 h6 h44 h47
  unfold fX6_live_57
  rw [if_b01]
  unfold drw at st
  by_cases c : K 2 ≤ huF K d
  · rw [if_pos (decide_eq_true c), if_b01]
    simp only [if_pos c] at st
    cases dr with
    | true =>
      simp only [if_pos] at st
      rw [if_pos rfl]
      have e44 : gI w 4 4 = nI (sea K true s0 d).2.2 := S.2.2.2.2.2.2.1
      have e47 : gL w 4 7 = (sea K true s0 d).2.1 := S.2.2.2.2.2.2.2 rfl
      have en : fX6_nextDraw (uI w 5 d (nI (huF K d))) = some ((lRm (lcg (sea K true s0 d).2.1 / 65536) 10).toInt32, uL (uI (uI w 5 d (nI (huF K d))) 4 4 (nI ((sea K true s0 d).2.2 + 1))) 4 7 (lcg (sea K true s0 d).2.1)) := by
        unfold fX6_nextDraw
        rw [lT_eq, lT_eq, gI_uI_ne (by omega), e44, gL_uL_at, gL_uI, gL_uI, e47, nI_1]
        rfl
      obtain ⟨w', p1, p2, p3⟩ := st (uL (uI (uI w 5 d (nI (huF K d))) 4 4 (nI ((sea K true s0 d).2.2 + 1))) 4 7 (lcg (sea K true s0 d).2.1)) (fun a f q1 q2 => by rw [gI_uL, gI_uI, if_neg (by omega), gI_uI, if_neg (by omega)]) (by rw [gI_uL, gI_uI_ne (by omega), gI_uI_at]) (by rw [gI_uL, gI_uI_at]) (fun _ => gL_uL_at)
      have e3 : gI (uL (uI (uI w 5 d (nI (huF K d))) 4 4 (nI ((sea K true s0 d).2.2 + 1))) 4 7 (lcg (sea K true s0 d).2.1)) k 4 = nI (K 3) := by
        rw [gI_uL, gI_uI_ne (by omega), gI_uI_ne (by omega)]; exact H.c4
      rw [en, bW_some, e3]
      by_cases q : okD K (lcg (sea K true s0 d).2.1) = true
      · rw [if_pos ((digit_ok K W _).mpr q)]
        rw [q] at p1
        rw [show fX6_settle _ k (nI b) (nI d) 1 = some w' from p1, bI_some]
        exact ⟨w', rfl, p2, p3⟩
      · rw [if_neg (fun z => q ((digit_ok K W _).mp z))]
        rw [show okD K (lcg (sea K true s0 d).2.1) = false by simpa using q] at p1
        rw [show fX6_settle _ k (nI b) (nI d) 0 = some w' from p1, bI_some]
        exact ⟨w', rfl, p2, p3⟩
    | false =>
      simp only [if_neg (show ¬ (false = true) by decide)] at st
      rw [if_neg (by decide)]
      obtain ⟨w', p1, p2, p3⟩ := st (uI w 5 d (nI (huF K d))) (fun a f q1 q2 => by rw [gI_uI, if_neg (by omega)]) gI_uI_at (by rw [gI_uI_ne (by omega)]; exact S.2.2.2.2.2.2.1) (fun z => by cases z)
      rw [decide_eq_true c, p1, bI_some]
      exact ⟨w', rfl, p2, p3⟩
  · rw [if_neg (fun z => c (of_decide_eq_true z))]
    simp only [if_neg c] at st
    obtain ⟨w', p1, p2, p3⟩ := st (uI w 5 d (nI (huF K d))) (fun a f q1 q2 => by rw [gI_uI, if_neg (by omega)]) gI_uI_at (by rw [gI_uI_ne (by omega)]; exact S.2.2.2.2.2.2.1) (fun z => by rw [gL_uI]; exact S.2.2.2.2.2.2.2 z)
    rw [decide_eq_false c, p1, bI_some]
    exact ⟨w', rfl, p2, p3⟩
theorem live97_ok (K8 : HW → Int32 → Int32 → Option HW) (x2 : Int32) (W : WF K) (d : Nat) : fX6_live_97 w K8 k x2 (nI (huF K d)) (nI d) (c9 (aD K d)) = K8 w (nI (huF K (d + 1))) (nI (d + 1)) := by
  have hb := W.b
  have h1 := aD_lt W (d := d)
  unfold fX6_live_97
  rw [nI_1, lT_eq, nI_1]
  by_cases c : aD K d = 0
  · rw [if_pos ((c9_none (by omega)).mpr c)]
    show _ = K8 w (nI (if aD K d = 0 then _ else _)) _
    rw [if_pos c]
  · rw [if_neg (fun z => c ((c9_none (by omega)).mp z))]
    show _ = K8 w (nI (if aD K d = 0 then _ else _)) _
    rw [if_neg c]; rfl
theorem live13_L (hk : 26 ≤ k) (W : WF K) (dr : Bool) (s0 : Int64) : ∀ F d (w : HW), d ≤ K 0 → K 0 - d < F → CC w k K → CS K dr s0 w d → ∃ w', fX6_live_13 k (b01 dr) F w (nI (huF K d)) (nI d) = some w' ∧ CS K dr s0 w' (K 0) := by
  have hb := W.b
  intro F
  induction F with
  | zero => intro d w a b; omega
  | succ F ih =>
    intro d w a b H S
    have hu := huF_le W d
    rw [fX6_live_13, H.c1]
    by_cases hd : d < K 0
    · rw [if_pos (nI_lt hd (by omega)), if_pos (inB_nI (by omega) (by omega)), ix_nI (by omega), lT_eq, if_pos (inB_nI (by omega) (by omega)), lT_eq, gI_uI_ne (by omega), gI_uI_ne (by omega), H.c3, S.2.2.1 d (by omega)]
      have e97 := fun w' => live97_ok (w := w') (k := k) (fun w x3 x4 => fX6_live_13 k (b01 dr) F w x3 x4) (b01 dr) W d
      by_cases c : 2 ≤ aD K d
      · obtain ⟨b, hb2⟩ : ∃ b, aD K d = b + 2 := ⟨aD K d - 2, by omega⟩
        obtain ⟨w', p1, p2, p3⟩ := live57_ok H hk W S hd hb2 (fun w x3 x4 => fX6_live_13 k (b01 dr) F w x3 x4) (nI (huF K d))
        have hc9 : c9 (aD K d) = nI b := by rw [c9_ask c, hb2, Nat.add_sub_cancel]
        rw [hc9] at e97 ⊢
        obtain ⟨w2, q1, q2⟩ := ih (d + 1) w' (by omega) (by omega) (H.of (fun c x y f => p3 c f (by omega))) p2
        have hbl : b < 100 := by have := aD_lt W (d := d); omega
        rw [if_pos (nI_pos (by omega))]
        refine ⟨w2, ?_, q2⟩
        by_cases c2 : K 2 ≤ huF K d
        · rw [decide_eq_true c2] at p1
          rw [if_pos (nI_nlt (by omega) (by omega))]
          exact (p1.trans (e97 w')).trans q1
        · rw [decide_eq_false c2] at p1
          rw [if_neg (fun z => z (nI_lt (by omega) (by omega)))]
          exact (p1.trans (e97 w')).trans q1
      · rw [if_neg (fun z => z (c9_neg (by omega))), e97]
        exact ih (d + 1) _ (by omega) (by omega) (H.of (fun c x y f => gI_uI_ne (by omega))) (S.calm W (by omega) _ (fun a f q => by rw [gI_uI, if_neg (by omega)]) gI_uI_at (fun a f => rfl))
    · have e : d = K 0 := by omega
      subst e
      rw [if_neg (nI_nlt (by omega) (by omega))]
      exact ⟨w, rfl, S⟩
theorem act_code (e : Nat) : (c9 (bC e + 1)) = aI (bC e) := by
  unfold c9
  rw [if_neg (by omega), Nat.add_sub_cancel]
theorem lay86_L (hk : 26 ≤ k) (W : WF K) : ∀ F i (w : HW), i ≤ K 6 → K 6 - i < F → CC w k K → (∀ d, d < 14 → gI w 9 d = c9 (aDn K d i)) → ∃ w', fX6_layOut_86 k F w (nI i) = some w' ∧ (∀ d, d < 14 → gI w' 9 d = c9 (aD K d)) ∧ (∀ a f, a ≠ 9 → gI w' a f = gI w a f) ∧ (∀ a f, gL w' a f = gL w a f) := by
  have hb := W.b
  intro F
  induction F with
  | zero => intro i w a b; omega
  | succ F ih =>
    intro i w a b H h9
    rw [fX6_layOut_86, H.c14]
    by_cases hi : i < K 6
    · have ha := W.act hi
      have st : ∀ v : Int32, v = aI (bC (K (57 + i))) → ∃ w', fX6_layOut_86 k F (uI w 9 (dA (K (57 + i))) v) (nI (i + 1)) = some w' ∧ (∀ d, d < 14 → gI w' 9 d = c9 (aD K d)) ∧ (∀ a f, a ≠ 9 → gI w' a f = gI w a f) ∧ (∀ a f, gL w' a f = gL w a f) := by
        rintro v rfl
        obtain ⟨w', p1, p2, p3, p4⟩ := ih (i + 1) (uI w 9 (dA (K (57 + i))) (aI (bC (K (57 + i))))) (by omega) (by omega) (H.of (fun c x y f => gI_uI_ne (by omega))) (fun d hd => by
          rw [gI_uI, aDn]
          by_cases e : dA (K (57 + i)) = d
          · rw [if_pos ⟨rfl, e.symm⟩, if_pos e, act_code]
          · rw [if_neg (fun z => e z.2.symm), if_neg e]; exact h9 d hd)
        exact ⟨w', p1, p2, fun a f h => by rw [p3 a f h, gI_uI_ne h], p4⟩
      rw [if_pos (nI_lt hi (by omega)), if_pos (inB_nI (by omega) (by omega)), ix_nI (by omega), (H.act hi).1, (H.act hi).2, lT_eq, if_pos (inB_nI (by omega) (by omega)), if_pos (inB_nI (by omega) (by omega)), ix_nI (by omega), if_pos (inB_nI (by omega) (by omega)), lT_eq, lT_eq, nI_1]
      by_cases c : bC (K (57 + i)) = 0
      · rw [if_pos ((aI_m1 (by omega)).mpr c)]
        exact st _ (by rw [c]; rfl)
      · rw [if_neg (fun z => c ((aI_m1 (by omega)).mp z))]
        exact st _ rfl
    · have e : i = K 6 := by omega
      subst e
      rw [if_neg (nI_nlt (by omega) (by omega))]
      exact ⟨w, rfl, h9, fun _ _ _ => rfl, fun _ _ => rfl⟩
theorem lay51_L (hk : 26 ≤ k) (W : WF K) : ∀ F i (w : HW), i ≤ 8 → 8 - i < F → CC w k K → (∀ d, d < 14 → gI w 9 d = -2) → (∀ b, b < i → gI w 6 b = -1 ∧ gI w 7 b = -1 ∧ gI w 8 b = -1) → ∃ w', fX6_layOut_51 k F w (nI i) = some w' ∧ (∀ d, d < 14 → gI w' 9 d = c9 (aD K d)) ∧ (∀ b, b < 8 → gI w' 6 b = -1 ∧ gI w' 7 b = -1 ∧ gI w' 8 b = -1) ∧ (∀ a f, (a < 6 ∨ 9 < a) → gI w' a f = gI w a f) ∧ (∀ a f, gL w' a f = gL w a f) := by
  have hb := W.b
  intro F
  induction F with
  | zero => intro i w a b; omega
  | succ F ih =>
    intro i w a b H h9 h6
    rw [fX6_layOut_51]
    by_cases hi : i < 8
    · rw [if_pos (show nI i < 8 from nI_lt (b := 8) hi (by omega))]
      simp only [if_pos (inB_nI (N := 8) hi (by omega)), ix_nI (show i < 2 ^ 31 by omega), lT_eq]
      rw [nI_1]
      obtain ⟨w', p1, p2, p3, p4, p5⟩ := ih (i + 1) (uI (uI (uI w 6 i (-1)) 7 i (-1)) 8 i (-1)) (by omega) (by omega) (H.of (fun c x y f => by rw [gI_uI_ne (by omega), gI_uI_ne (by omega), gI_uI_ne (by omega)])) (fun d hd => by rw [gI_uI_ne (by omega), gI_uI_ne (by omega), gI_uI_ne (by omega)]; exact h9 d hd) (fun b hb => by
        rw [gI_uI_ne (by omega), gI_uI_ne (by omega), gI_uI_ne (show 7 ≠ 8 by omega)]
        by_cases e : b = i
        · subst e
          rw [gI_uI_at, gI_uI_at, gI_uI_at]
          exact ⟨rfl, rfl, rfl⟩
        · rw [gI_uI_nf e, gI_uI_nf e, gI_uI_nf e, gI_uI_ne (by omega), gI_uI_ne (by omega), gI_uI_ne (by omega)]
          exact h6 b (by omega))
      exact ⟨w', p1, p2, p3, fun a f h => by rw [p4 a f h, gI_uI_ne (by omega), gI_uI_ne (by omega), gI_uI_ne (by omega)], p5⟩
    · rw [if_neg (show ¬ nI i < 8 from nI_nlt (b := 8) (by omega) (by omega))]
      obtain ⟨w', p1, p2, p3, p4⟩ := lay86_L hk W FU 0 w (by omega) (by rw [FU_eq]; omega) H (fun d hd => h9 d hd)
      exact ⟨w', p1, p2, fun b hb => by rw [p3 _ _ (by omega), p3 _ _ (by omega), p3 _ _ (by omega)]; exact h6 b (by omega), fun a f h => p3 a f (by omega), p4⟩
theorem lay29_L (hk : 26 ≤ k) (W : WF K) : ∀ F i (w : HW), i ≤ 14 → 14 - i < F → CC w k K → (∀ d, d < i → gI w 9 d = -2) → ∃ w', fX6_layOut_29 k F w (nI i) = some w' ∧ (∀ d, d < 14 → gI w' 9 d = c9 (aD K d)) ∧ (∀ b, b < 8 → gI w' 6 b = -1 ∧ gI w' 7 b = -1 ∧ gI w' 8 b = -1) ∧ (∀ a f, (a < 6 ∨ 9 < a) → gI w' a f = gI w a f) ∧ (∀ a f, gL w' a f = gL w a f) := by
  intro F
  induction F with
  | zero => intro i w a b; omega
  | succ F ih =>
    intro i w a b H h9
    rw [fX6_layOut_29]
    by_cases hi : i < 14
    · rw [if_pos (show nI i < 14 from nI_lt (b := 14) hi (by omega)), if_pos (inB_nI hi (by omega)), ix_nI (by omega), lT_eq, nI_1]
      obtain ⟨w', p1, p2, p3, p4, p5⟩ := ih (i + 1) (uI w 9 i (-2)) (by omega) (by omega) (H.of (fun c x y f => gI_uI_ne (by omega))) (fun d hd => by
        by_cases e : d = i
        · subst e; exact gI_uI_at
        · rw [gI_uI_nf e]; exact h9 d (by omega))
      exact ⟨w', p1, p2, p3, fun a f h => by rw [p4 a f h, gI_uI_ne (by omega)], p5⟩
    · rw [if_neg (show ¬ nI i < 14 from nI_nlt (b := 14) (by omega) (by omega))]
      exact lay51_L hk W FU 0 w (by omega) (by rw [FU_eq]; omega) H (fun d hd => h9 d (by omega)) (fun b hb => by omega)
/-- the class's season -/
theorem live_ok (H : CC w k K) (hk : 26 ≤ k) (W : WF K) (dr : Bool) (s0 : Int64) (h47 : dr = true → gL w 4 7 = s0) : ∃ w', fX6_live w k (b01 dr) = some w' ∧ CS K dr s0 w' (K 0) := by
  have hb := W.b
  unfold fX6_live fX6_layOut
  have H1 : CC (uI w 4 4 0) k K := H.of (fun c x y f => gI_uI_ne (by omega))
  have H2 : CC (uI (uI w 4 4 0) 10 0 (nI (clr K 0))) k K := H1.of (fun c x y f => gI_uI_ne (by omega))
  obtain ⟨w', p1, p2, p3, p4, p5⟩ := lay29_L hk W FU 0 (uI (uI (uI w 4 4 0) 10 0 (nI (clr K 0))) 10 1 (nI (clr K 1))) (by omega) (by rw [FU_eq]; omega) (H2.of (fun c x y f => gI_uI_ne (by omega))) (fun d hd => by omega)
  have p1' : fX6_layOut_29 k FU (uI (uI (uI w 4 4 0) 10 0 (nI (clr K 0))) 10 1 (nI (clr K 1))) 0 = some w' := p1
  rw [lT_eq, show fX0_clearDays (uI w 4 4 0) k 0 = some (nI (clr K 0)) from X0_clearDays_ok H1 W (s := 0) (by omega), bI_some, if_pos (show inB 0 2 = true from rfl), ix_0, lT_eq, show fX0_clearDays (uI (uI w 4 4 0) 10 0 (nI (clr K 0))) k 1 = some (nI (clr K 1)) from X0_clearDays_ok H2 W (s := 1) (by omega), bI_some, if_pos (show inB 1 2 = true from rfl), ix_1, lT_eq, p1', bI_some, lT_eq]
  have H3 : CC w' k K := H2.of (fun c x y f => by rw [p4 c f (by omega), gI_uI_ne (by omega)])
  rw [H3.c2]
  refine live13_L hk W dr s0 FU 0 w' (by omega) (by rw [FU_eq]; omega) H3 ⟨fun d hd => by omega, fun b hb => (p3 b hb).2.1, p2, ?_, fun b hb => ?_, fun b hb => ?_, ?_, fun h => ?_⟩
  · rw [p4 _ _ (by omega), p4 _ _ (by omega), gI_uI_nf (by omega), gI_uI_at, gI_uI_at]
    exact ⟨rfl, rfl⟩
  · rw [(p3 b hb).1]
    by_cases q : aB K b ≤ 0
    · rw [if_pos q, show aB K b = 0 by omega]; rfl
    · rw [if_neg q]
  · rw [(p3 b hb).2.2, if_pos (by omega)]
  · rw [p4 _ _ (by omega), gI_uI_ne (by omega), gI_uI_ne (by omega), gI_uI_at]; rfl
  · rw [p5]; exact h47 h
theorem play_ok (H : CC w k K) (hk : 26 ≤ k) (W : WF K) : ∃ w', fX6_play w k = some w' ∧ CS K false 0 w' (K 0) := by
  obtain ⟨w', p1, p2⟩ := live_ok H hk W false 0 (fun z => by cases z)
  unfold fX6_play
  rw [show fX6_live w k 0 = some w' from p1, bI_some]
  exact ⟨w', rfl, p2⟩
end PLY
