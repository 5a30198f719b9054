/-! WHAT IS BUILT: the world at rest -/
def w0 : HW := (fun _ _ => 0, fun _ _ => 0, fun _ _ => 1000000)
def wF : HW := B10_79 (B9_0 w0)
theorem Fh_0 : Fh w0 1 := fun _ _ _ => ⟨rfl, rfl, rfl⟩
theorem Fh_1 : Fh (B9_0 w0) 79 := f9_0 Fh_0
def Hr (w : HW) : Prop := ∀ c f, 45 ≤ f → gR w c f = 1000000
theorem Hr.uR {w : HW} {c f v : Nat} (h : Hr w) (hf : f < 45) : Hr (uR w c f v) := fun a b hb => by
  rw [gR_uR, if_neg (by omega)]
  exact h a b hb
theorem Hr.uI {w : HW} {c f : Nat} {v : Int32} (h : Hr w) : Hr (uI w c f v) := fun a b hb => by
  rw [gR_uI]
  exact h a b hb
theorem Hr_F : Hr wF := by
  unfold wF B10_79 B9_0 B8_1 B4_3 B6_4 B3_11 B1_17 B2_20 B7_22 B0_26 B0_35 B5_44 B5_46 B5_48 B5_50 B0_52 B0_61 B0_70
  repeat (first | refine Hr.uR ?_ (by decide) | refine Hr.uI ?_)
  exact fun _ _ _ => rfl
/-- only these cells have an int in them -/
def Zi (w : HW) : Prop := ∀ c f, (c == 3 || c == 44 || c == 46 || c == 48 || c == 50 || c == 79 || c == 98) = false → gI w c f = 0
theorem Zi.uR {w : HW} {c f v : Nat} (h : Zi w) : Zi (uR w c f v) := fun a b hb => by
  rw [gI_uR]
  exact h a b hb
theorem Zi.uI {w : HW} {c f : Nat} {v : Int32} (h : Zi w) (hc : (c == 3 || c == 44 || c == 46 || c == 48 || c == 50 || c == 79 || c == 98) = true) : Zi (uI w c f v) := fun a b hb => by
  rw [gI_uI, if_neg (fun q => by rw [q.1, hc] at hb; cases hb)]
  exact h a b hb
theorem Zi_F : Zi wF := by
  unfold wF B10_79 B9_0 B8_1 B4_3 B6_4 B3_11 B1_17 B2_20 B7_22 B0_26 B0_35 B5_44 B5_46 B5_48 B5_50 B0_52 B0_61 B0_70
  repeat (first | refine Zi.uR ?_ | refine Zi.uI ?_ (by decide))
  exact fun _ _ _ => rfl
theorem Zl_F (c f : Nat) : gL wF c f = 0 := rfl
theorem hsr_small : ∀ c, c < 102 → (hsl.getD c []).length ≤ 45 := by decide +kernel
theorem gR_lo : ∀ c, c < 102 → ∀ f, f < 45 → gR wF c f = hrv wF c f := by decide +kernel
theorem gR_wF {c : Nat} (hc : c < 102) (f : Nat) : gR wF c f = hrv wF c f := by
  by_cases hf : f < 45
  · exact gR_lo c hc f hf
  · have h1 := hsr_small c hc
    have e : hsr c f = 1000000 := by
      unfold hsr
      rw [List.getD_eq_getElem?_getD (l := hsl.getD c []), List.getElem?_eq_none (by omega)]
      rfl
    have e2 := Hr_F c f (by omega)
    unfold hrv
    rw [e2, e]
    cases hdy c f <;> rfl
theorem kws_F {cA : Nat → ClassId} {base : Nat} : kws cA base wF 102 = hws cA base wF := by
  unfold kws hws
  refine List.map_congr_left (fun c hc => ?_)
  have hc' : c < 102 := by simpa using hc
  have hf : ∀ ci f, kfld base wF c ci f = hfld base wF c ci f := by
    intro ci f
    unfold kfld hfld
    rw [gR_wF hc' f]
    generalize hfty ci f = z
    rcases z with _ | _ | z <;> rfl
  have ha : ∀ t, karc base wF c t = harc base wF c t := by
    intro t
    unfold karc harc
    rw [show (fun i => hrf base (gR wF c i)) = fun i => hrf base (hrv wF c i) from funext fun i => by rw [gR_wF hc' i]]
    rfl
  have e : kfld base wF c (hkd c).2 = hfld base wF c (hkd c).2 := funext (hf _)
  unfold kent hent
  rw [e]
  cases h : (hkd c).1 with
  | zero => rfl
  | succ t =>
    show (base + c, Sum.inl (cA (t + 1), (hkd c).2, karc base wF c (t + 1))) = _
    rw [ha]
    rfl
theorem Rel_F : Rel wF := by
  have z : ∀ c f, (c == 3 || c == 44 || c == 46 || c == 48 || c == 50 || c == 79 || c == 98) = false → gI wF c f = 0 := Zi_F
  have n0 : nI 0 = 0 := nI_0
  refine ⟨⟨⟨⟨0, Nat.zero_le _, ?_, ?_⟩, fun i _ => ?_⟩, ⟨?_, ?_⟩, ⟨?_, ?_, ?_, ?_, ?_⟩, fun k _ => ⟨?_, Or.inl (z 25 k rfl)⟩, fun s hs => ⟨fun i _ => rfl, Or.inl ?_⟩⟩, fun _ => 0, WF_0, ?_, 26, 35, ⟨rfl, rfl, Or.inl ⟨rfl, rfl⟩⟩, rfl, ?_, ?_, ?_, ?_⟩
  · rw [z 1 1 rfl, n0]
  · decide +kernel
  · rw [z 2 i rfl, z 83 i rfl]
    exact ⟨rfl, by unfold isBy; decide⟩
  · decide +kernel
  · decide +kernel
  · decide +kernel
  · decide +kernel
  · decide +kernel
  · decide +kernel
  · decide +kernel
  · rw [z 25 k rfl, z 82 k rfl]
  · have h : s = 0 ∨ s = 1 ∨ s = 2 ∨ s = 3 := by omega
    rcases h with rfl | rfl | rfl | rfl <;> decide +kernel
  · refine ⟨?_, fun a h => absurd h (Nat.not_lt_zero a), fun a h => absurd h (Nat.not_lt_zero a), fun a h => absurd h (Nat.not_lt_zero a)⟩
    refine ⟨?_, ?_, ?_, ?_, ?_, ?_, ?_, ?_, ?_⟩ <;> rw [z 80 _ rfl, n0]
  · refine ⟨?_, ?_, ?_, ?_, ?_, ?_, ?_, ?_, ?_⟩ <;> rw [z 26 _ rfl, n0]
  · exact fun a h => absurd h (Nat.not_lt_zero a)
  · exact fun a h => absurd h (Nat.not_lt_zero a)
  · exact fun a h => absurd h (Nat.not_lt_zero a)
