/-! READING: the loops over lines -/
section RDX
variable {B : Nat → Int32} {t k : Nat}
theorem readX_L (ht : t ≤ 800) (hk : 26 ≤ k) : ∀ F i (w : HW) (z : ZZ) (K : Nat → Nat), i ≤ 800 → 800 - i < F → CR B t k w z → JJ B t i z K → (z.f = 0 → CC w k K) → ∃ w', fX4_read_38 F w (nI i) = some (b01 (decide ((rdF B t (800 - i) z K).1.f = 0)), w') ∧ CR B t k w' (rdF B t (800 - i) z K).1 ∧ Sk k w w' ∧ ((rdF B t (800 - i) z K).1.f = 0 → CC w' k (rdF B t (800 - i) z K).2) := by
  intro F
  induction F with
  | zero => intro i w z K h1 h2; omega
  | succ F ih =>
    intro i w z K h1 h2 C J HC
    have hc4 := C.2.1.2.2.2.2.1
    have stop : rdF B t (800 - i) z K = (z, K) → ∃ w', (if gI w 3 0 = 0 then some ((1 : Int32), w) else some (0, w)) = some (b01 (decide ((rdF B t (800 - i) z K).1.f = 0)), w') ∧ CR B t k w' (rdF B t (800 - i) z K).1 ∧ Sk k w w' ∧ ((rdF B t (800 - i) z K).1.f = 0 → CC w' k (rdF B t (800 - i) z K).2) := by
      intro e
      rw [e, if_f0 C]
      refine ⟨w, ?_, C, Sk.of Sx.rf, HC⟩
      by_cases hf : z.f = 0
      · rw [if_pos hf, decide_eq_true hf]; rfl
      · rw [if_neg hf, decide_eq_false hf]; rfl
    rw [fX4_read_38]
    by_cases hi : i < 800
    · obtain ⟨n, hn⟩ : ∃ n, 800 - i = n + 1 := ⟨800 - i - 1, by omega⟩
      rw [if_pos (show nI i < 800 from nI_lt (b := 800) hi (by omega)), C.2.2.2.2.1]
      by_cases hc : z.c = 0
      · rw [if_neg (show ¬ ¬ nI z.c = 0 from fun y => y (congrArg nI hc))]
        exact stop (by rw [hn, rdF_s, if_neg (fun y => y.1 hc)])
      · rw [if_pos (show ¬ nI z.c = 0 from fun y => hc ((nI_eqv (b := 0) (by omega) (by omega)).mp y)), if_f0 C]
        by_cases hf : z.f = 0
        · obtain ⟨W, h6, h7, he⟩ := J.2 hf
          obtain ⟨w1, q1, q2, q3, q4⟩ := readLineX_ok ht hk W h6 C hf (HC hf)
          obtain ⟨w2, r1, r2, r3, r4⟩ := ih (i + 1) w1 (lnZ B t z K) (lnK B t z K) (by omega) (by omega) q2 (J.line ht hf hc) q4
          rw [if_pos hf, q1, bI_some, nI_1, r1, hn, rdF_s, if_pos ⟨hc, hf⟩, show 800 - (i + 1) = n by omega]
          rw [show 800 - (i + 1) = n by omega] at r2 r4
          exact ⟨w2, rfl, r2, q3.tr r3, r4⟩
        · rw [if_neg hf]
          exact stop (by rw [hn, rdF_s, if_neg (fun y => hf y.2)])
    · rw [if_neg (show ¬ nI i < 800 from nI_nlt (b := 800) (by omega) (by omega))]
      exact stop (by rw [show 800 - i = 0 by omega]; rfl)
theorem camp86_L (w0 : HW) : ∀ F i (w : HW), i ≤ 77 → 77 - i < F → (∀ j, j < i → gI w 80 j = gI w0 85 j) → (∀ c f, c ≠ 80 → gI w c f = gI w0 c f) → ∃ w', fX10_camp_86 F w (nI i) = some (gI w' 80 7, w') ∧ (∀ j, j < 77 → gI w' 80 j = gI w0 85 j) ∧ (∀ c f, c ≠ 80 → gI w' c f = gI w0 c f) ∧ (∀ c f, gL w' c f = gL w c f ∧ gR w' c f = gR w c f) := by
  intro F
  induction F with
  | zero => intro i w h1 h2; omega
  | succ F ih =>
    intro i w h1 h2 h3 h4
    rw [fX10_camp_86]
    by_cases hi : i < 77
    · have hin : inB (nI i) 77 = true := inB_nI hi (by omega)
      rw [if_pos (show nI i < 77 from nI_lt (b := 77) hi (by omega)), if_pos hin, if_pos hin, ix_nI (by omega), lT_eq, nI_1]
      obtain ⟨w', q1, q2, q3, q4⟩ := ih (i + 1) (uI w 80 i (gI w 85 i)) (by omega) (by omega) (fun j hj => by
        by_cases e : j = i
        · subst e; rw [gI_uI_at, h4 _ _ (by omega)]
        · rw [gI_uI_nf e]; exact h3 j (by omega)) (fun c f hc => by rw [gI_uI_ne hc]; exact h4 c f hc)
      exact ⟨w', q1, q2, q3, fun c f => ⟨(q4 c f).1.trans rfl, (q4 c f).2.trans rfl⟩⟩
    · rw [if_neg (show ¬ nI i < 77 from nI_nlt (b := 77) (by omega) (by omega)), if_pos (show inB 7 77 = true from rfl), ix_7]
      exact ⟨w, rfl, fun j hj => h3 j (by omega), h4, fun _ _ => ⟨rfl, rfl⟩⟩
theorem readM_L (ht : t ≤ 800) : ∀ F i (w : HW) (z : ZZ) (K : Nat → Nat), i ≤ 800 → 800 - i + 1 < F → MR B t w z → JJ B t i z K → RCg (gI w 85) K → ∃ w', fX10_camp_53 F w = (if (rdF B t (800 - i) z K).1.f = 0 then fX10_camp_86 FU w' 0 else some (-4, w')) ∧ MR B t w' (rdF B t (800 - i) z K).1 ∧ Sgm w w' ∧ RCg (gI w' 85) (rdF B t (800 - i) z K).2 ∧ ((rdF B t (800 - i) z K).1.f = 0 → WF (rdF B t (800 - i) z K).2) := by
  intro F
  induction F with
  | zero => intro i w z K h1 h2; omega
  | succ F ih =>
    intro i w z K h1 h2 C J R
    have hc4 := C.2.1.2.2.2.2.1
    have hI4 := C.2.1.2.2.2.1
    have stop : rdF B t (800 - i) z K = (z, K) → ∃ w', (bI (some (b01 (decide (z.f = 0)))) fun r_17 => if r_17 = 0 then some ((-4 : Int32), w) else fX10_camp_86 FU w 0) = (if (rdF B t (800 - i) z K).1.f = 0 then fX10_camp_86 FU w' 0 else some (-4, w')) ∧ MR B t w' (rdF B t (800 - i) z K).1 ∧ Sgm w w' ∧ RCg (gI w' 85) (rdF B t (800 - i) z K).2 ∧ ((rdF B t (800 - i) z K).1.f = 0 → WF (rdF B t (800 - i) z K).2) := by
      intro e
      rw [e, bI_some, if_b01', ite_dec]
      exact ⟨w, rfl, C, Sgm.of Sx.rf, R, fun y => (J.2 y).1⟩
    rw [fX10_camp_53, C.good, bI_some, if_b01, ite_dec]
    by_cases hf : z.f = 0
    · obtain ⟨W, h6, h7, he⟩ := J.2 hf
      rw [if_pos hf, C.2.2.2.2.1]
      by_cases hc : z.c = 0
      · rw [if_neg (show ¬ ¬ nI z.c = 0 from fun y => y (congrArg nI hc))]
        refine stop ?_
        cases e : 800 - i with
        | zero => rfl
        | succ n => rw [rdF_s, if_neg (fun y => y.1 hc)]
      · have he := he hc
        obtain ⟨n, hn⟩ : ∃ n, 800 - i = n + 1 := ⟨800 - i - 1, by omega⟩
        obtain ⟨w1, q1, q2, q3, q4⟩ := readLineM_ok ht W h6 C hf R
        obtain ⟨w2, r1, r2, r3, r4, r5⟩ := ih (i + 1) w1 (lnZ B t z K) (lnK B t z K) (by omega) (by omega) q2 (J.line ht hf hc) q4
        rw [if_pos (show ¬ nI z.c = 0 from fun y => hc ((nI_eqv (b := 0) (by omega) (by omega)).mp y)), q1, bI_some, r1, hn, rdF_s, if_pos (show z.c ≠ 0 ∧ z.f = 0 from ⟨hc, hf⟩), show 800 - (i + 1) = n by omega]
        rw [show 800 - (i + 1) = n by omega] at r2 r4 r5
        exact ⟨w2, rfl, r2, q3.tr r3, r4, r5⟩
    · rw [if_neg hf]
      refine stop ?_
      cases e : 800 - i with
      | zero => rfl
      | succ n => rw [rdF_s, if_neg (fun y => hf y.2)]
theorem camp30_L (ht : t ≤ 800) : ∀ F i (w : HW), i ≤ 77 → 77 - i < F → ME B t w → gI w 79 8 = 0 → gI w 79 12 = 0 → gI w 79 13 = -1 → (∀ j, j < i → gI w 85 j = 0) → ∃ w', fX10_camp_30 F w (nI i) = fX10_camp_53 FU w' ∧ MR B t w' (zt B t 0 0 0) ∧ Sgm w w' ∧ RCg (gI w' 85) (fun _ => 0) := by
  intro F
  induction F with
  | zero => intro i w h1 h2; omega
  | succ F ih =>
    intro i w h1 h2 E h8 h12 h13 h3
    rw [fX10_camp_30]
    by_cases hi : i < 77
    · rw [if_pos (show nI i < 77 from nI_lt (b := 77) hi (by omega)), if_pos (inB_nI hi (by omega)), ix_nI (by omega), lT_eq, nI_1]
      obtain ⟨w', q1, q2, q3, q4⟩ := ih (i + 1) (uI w 85 i 0) (by omega) (by omega) ⟨by rw [gI_uI_ne (by omega)]; exact E.1, fun j hj => by rw [gI_uI_ne (by omega)]; exact E.2.1 j hj, E.2.2⟩ (by rw [gI_uI_ne (by omega)]; exact h8) (by rw [gI_uI_ne (by omega)]; exact h12) (by rw [gI_uI_ne (by omega)]; exact h13) (fun j hj => by
        by_cases e : j = i
        · subst e; exact gI_uI_at
        · rw [gI_uI_nf e]; exact h3 j (by omega))
      exact ⟨w', q1, q2, ((Sgm.of Sx.rf).put).tr q3, q4⟩
    · obtain ⟨w', q1, q2, q3, q4, q5, q6⟩ := advance_ok E ht (i := 0) h8 (Nat.zero_le _)
      have q6' := q6.mono p98
      rw [if_neg (show ¬ nI i < 77 from nI_nlt (b := 77) (by omega) (by omega)), q1, bI_some]
      refine ⟨w', rfl, ⟨E.of q6', ZI.mk0 (by omega) (by omega) (Nat.zero_le _), (q6 79 12 rfl).1.trans h12, (q6 79 13 rfl).1.trans h13, q2, q3, q4, q5⟩, Sgm.of q6', ⟨?_, fun a ha => absurd ha (Nat.not_lt_zero _), fun b hb => absurd hb (Nat.not_lt_zero _), fun i hi => absurd hi (Nat.not_lt_zero _)⟩⟩
      refine ⟨?_, ?_, ?_, ?_, ?_, ?_, ?_, ?_, ?_⟩ <;> (rw [s85 q6', h3 _ (by omega)]; rfl)
theorem WF_0 : WF (fun _ => 0) := ⟨⟨Nat.zero_le _, Nat.zero_le _, Nat.zero_le _, Nat.zero_le _, Nat.zero_le _, Nat.zero_le _, Nat.zero_le _, Nat.zero_le _, Nat.two_pow_pos 0⟩, fun _ => ⟨rfl, rfl, rfl, rfl, rfl, rfl, rfl⟩, fun h => absurd h (Nat.lt_irrefl 0), fun a ha => absurd ha (Nat.not_lt_zero _), fun b hb => absurd hb (Nat.not_lt_zero _), fun i hi => absurd hi (Nat.not_lt_zero _), fun i j hi => absurd hi (Nat.not_lt_zero _)⟩
theorem JJ_0 : JJ B t 0 (zt B t 0 0 0) (fun _ => 0) := by
  refine ⟨ZI.mk0 (by omega) (by omega) (Nat.zero_le _), fun _ => ⟨WF_0, rfl, rfl, fun hc => ?_⟩⟩
  have hb := tk_b (B := B) (t := t) (k := 0) (Nat.zero_le _)
  have c1 : tkC B t 0 ≠ 0 := hc
  have := hb.2.2.2.2.2.1 c1
  show 0 + 1 ≤ tkE B t 0
  omega
end RDX
