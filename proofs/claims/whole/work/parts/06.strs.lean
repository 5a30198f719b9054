theorem dJ0_length_8abf5_0 : decode cJ0_length_8abf5 0 = .ok (.aload_n 0, 1) := by decide +kernel
theorem dJ0_length_8abf5_1 : decode cJ0_length_8abf5 1 = .ok (.getfield 9, 3) := by decide +kernel
theorem dJ0_length_8abf5_4 : decode cJ0_length_8abf5 4 = .ok (.arraylength, 1) := by decide +kernel
theorem dJ0_length_8abf5_5 : decode cJ0_length_8abf5 5 = .ok (.aload_n 0, 1) := by decide +kernel
theorem dJ0_length_8abf5_6 : decode cJ0_length_8abf5 6 = .ok (.invokevirtual 335, 3) := by decide +kernel
theorem dJ0_length_8abf5_9 : decode cJ0_length_8abf5 9 = .ok (.ishr, 1) := by decide +kernel
theorem dJ0_length_8abf5_10 : decode cJ0_length_8abf5 10 = .ok (.ireturn, 1) := by decide +kernel
theorem dJ0_charAt_5068e_0 : decode cJ0_charAt_5068e 0 = .ok (.aload_n 0, 1) := by decide +kernel
theorem dJ0_charAt_5068e_1 : decode cJ0_charAt_5068e 1 = .ok (.invokevirtual 492, 3) := by decide +kernel
theorem dJ0_charAt_5068e_4 : decode cJ0_charAt_5068e 4 = .ok (.ifCond .eq 12, 3) := by decide +kernel
theorem dJ0_charAt_5068e_7 : decode cJ0_charAt_5068e 7 = .ok (.aload_n 0, 1) := by decide +kernel
theorem dJ0_charAt_5068e_8 : decode cJ0_charAt_5068e 8 = .ok (.getfield 9, 3) := by decide +kernel
theorem dJ0_charAt_5068e_11 : decode cJ0_charAt_5068e 11 = .ok (.iload_n 1, 1) := by decide +kernel
theorem dJ0_charAt_5068e_12 : decode cJ0_charAt_5068e 12 = .ok (.invokestatic 495, 3) := by decide +kernel
theorem dJ0_charAt_5068e_15 : decode cJ0_charAt_5068e 15 = .ok (.ireturn, 1) := by decide +kernel
theorem dJ0_charAt_5068e_16 : decode cJ0_charAt_5068e 16 = .ok (.aload_n 0, 1) := by decide +kernel
theorem dJ0_charAt_5068e_17 : decode cJ0_charAt_5068e 17 = .ok (.getfield 9, 3) := by decide +kernel
theorem dJ0_charAt_5068e_20 : decode cJ0_charAt_5068e 20 = .ok (.iload_n 1, 1) := by decide +kernel
theorem dJ0_charAt_5068e_21 : decode cJ0_charAt_5068e 21 = .ok (.invokestatic 498, 3) := by decide +kernel
theorem dJ0_charAt_5068e_24 : decode cJ0_charAt_5068e 24 = .ok (.ireturn, 1) := by decide +kernel
theorem dJ0_coder_7d493_0 : decode cJ0_coder_7d493 0 = .ok (.getstatic 38, 3) := by decide +kernel
theorem dJ0_coder_7d493_3 : decode cJ0_coder_7d493 3 = .ok (.ifCond .eq 10, 3) := by decide +kernel
theorem dJ0_coder_7d493_6 : decode cJ0_coder_7d493 6 = .ok (.aload_n 0, 1) := by decide +kernel
theorem dJ0_coder_7d493_7 : decode cJ0_coder_7d493 7 = .ok (.getfield 15, 3) := by decide +kernel
theorem dJ0_coder_7d493_10 : decode cJ0_coder_7d493 10 = .ok (.goto 4, 3) := by decide +kernel
theorem dJ0_coder_7d493_13 : decode cJ0_coder_7d493 13 = .ok (.iconst 1, 1) := by decide +kernel
theorem dJ0_coder_7d493_14 : decode cJ0_coder_7d493 14 = .ok (.ireturn, 1) := by decide +kernel
theorem dJ0_isLatin1_aae02_0 : decode cJ0_isLatin1_aae02 0 = .ok (.getstatic 38, 3) := by decide +kernel
theorem dJ0_isLatin1_aae02_3 : decode cJ0_isLatin1_aae02 3 = .ok (.ifCond .eq 14, 3) := by decide +kernel
theorem dJ0_isLatin1_aae02_6 : decode cJ0_isLatin1_aae02 6 = .ok (.aload_n 0, 1) := by decide +kernel
theorem dJ0_isLatin1_aae02_7 : decode cJ0_isLatin1_aae02 7 = .ok (.getfield 15, 3) := by decide +kernel
theorem dJ0_isLatin1_aae02_10 : decode cJ0_isLatin1_aae02 10 = .ok (.ifCond .ne 7, 3) := by decide +kernel
theorem dJ0_isLatin1_aae02_13 : decode cJ0_isLatin1_aae02 13 = .ok (.iconst 1, 1) := by decide +kernel
theorem dJ0_isLatin1_aae02_14 : decode cJ0_isLatin1_aae02 14 = .ok (.goto 4, 3) := by decide +kernel
theorem dJ0_isLatin1_aae02_17 : decode cJ0_isLatin1_aae02 17 = .ok (.iconst 0, 1) := by decide +kernel
theorem dJ0_isLatin1_aae02_18 : decode cJ0_isLatin1_aae02 18 = .ok (.ireturn, 1) := by decide +kernel
theorem dJ0_checkIndex_df160_0 : decode cJ0_checkIndex_df160 0 = .ok (.iload_n 0, 1) := by decide +kernel
theorem dJ0_checkIndex_df160_1 : decode cJ0_checkIndex_df160 1 = .ok (.iload_n 1, 1) := by decide +kernel
theorem dJ0_checkIndex_df160_2 : decode cJ0_checkIndex_df160 2 = .ok (.getstatic 1053, 3) := by decide +kernel
theorem dJ0_checkIndex_df160_5 : decode cJ0_checkIndex_df160 5 = .ok (.invokestatic 1059, 3) := by decide +kernel
theorem dJ0_checkIndex_df160_8 : decode cJ0_checkIndex_df160 8 = .ok (.pop, 1) := by decide +kernel
theorem dJ0_checkIndex_df160_9 : decode cJ0_checkIndex_df160 9 = .ok (.return_, 1) := by decide +kernel
theorem dJ1_charAt_3b067_0 : decode cJ1_charAt_3b067 0 = .ok (.iload_n 1, 1) := by decide +kernel
theorem dJ1_charAt_3b067_1 : decode cJ1_charAt_3b067 1 = .ok (.aload_n 0, 1) := by decide +kernel
theorem dJ1_charAt_3b067_2 : decode cJ1_charAt_3b067 2 = .ok (.arraylength, 1) := by decide +kernel
theorem dJ1_charAt_3b067_3 : decode cJ1_charAt_3b067 3 = .ok (.invokestatic 9, 3) := by decide +kernel
theorem dJ1_charAt_3b067_6 : decode cJ1_charAt_3b067 6 = .ok (.aload_n 0, 1) := by decide +kernel
theorem dJ1_charAt_3b067_7 : decode cJ1_charAt_3b067 7 = .ok (.iload_n 1, 1) := by decide +kernel
theorem dJ1_charAt_3b067_8 : decode cJ1_charAt_3b067 8 = .ok (.baload, 1) := by decide +kernel
theorem dJ1_charAt_3b067_9 : decode cJ1_charAt_3b067 9 = .ok (.sipush 255, 3) := by decide +kernel
theorem dJ1_charAt_3b067_12 : decode cJ1_charAt_3b067 12 = .ok (.iand, 1) := by decide +kernel
theorem dJ1_charAt_3b067_13 : decode cJ1_charAt_3b067 13 = .ok (.i2c, 1) := by decide +kernel
theorem dJ1_charAt_3b067_14 : decode cJ1_charAt_3b067 14 = .ok (.ireturn, 1) := by decide +kernel
theorem dJ3_checkIndex_8e157_0 : decode cJ3_checkIndex_8e157 0 = .ok (.iload_n 0, 1) := by decide +kernel
theorem dJ3_checkIndex_8e157_1 : decode cJ3_checkIndex_8e157 1 = .ok (.ifCond .lt 8, 3) := by decide +kernel
theorem dJ3_checkIndex_8e157_4 : decode cJ3_checkIndex_8e157 4 = .ok (.iload_n 0, 1) := by decide +kernel
theorem dJ3_checkIndex_8e157_5 : decode cJ3_checkIndex_8e157 5 = .ok (.iload_n 1, 1) := by decide +kernel
theorem dJ3_checkIndex_8e157_6 : decode cJ3_checkIndex_8e157 6 = .ok (.if_icmp .lt 10, 3) := by decide +kernel
theorem dJ3_checkIndex_8e157_9 : decode cJ3_checkIndex_8e157 9 = .ok (.aload_n 2, 1) := by decide +kernel
theorem dJ3_checkIndex_8e157_10 : decode cJ3_checkIndex_8e157 10 = .ok (.iload_n 0, 1) := by decide +kernel
theorem dJ3_checkIndex_8e157_11 : decode cJ3_checkIndex_8e157 11 = .ok (.iload_n 1, 1) := by decide +kernel
theorem dJ3_checkIndex_8e157_12 : decode cJ3_checkIndex_8e157 12 = .ok (.invokestatic 95, 3) := by decide +kernel
theorem dJ3_checkIndex_8e157_15 : decode cJ3_checkIndex_8e157 15 = .ok (.athrow, 1) := by decide +kernel
theorem dJ3_checkIndex_8e157_16 : decode cJ3_checkIndex_8e157 16 = .ok (.iload_n 0, 1) := by decide +kernel
theorem dJ3_checkIndex_8e157_17 : decode cJ3_checkIndex_8e157 17 = .ok (.ireturn, 1) := by decide +kernel
theorem sw_val : Cond.fieldLink "java/lang/String" 9 "java/lang/String" "value" "[B" ∈ hWS := hWS_in (i := 1963) (by decide +kernel) (by decide +kernel)
theorem sw_cod : Cond.fieldLink "java/lang/String" 15 "java/lang/String" "coder" "B" ∈ hWS := hWS_in (i := 1964) (by decide +kernel) (by decide +kernel)
theorem sw_cs : Cond.fieldLink "java/lang/String" 38 "java/lang/String" "COMPACT_STRINGS" "Z" ∈ hWS := hWS_in (i := 432) (by decide +kernel) (by decide +kernel)
theorem sw_sf : Cond.fieldLink "java/lang/String" 1053 "jdk/internal/util/Preconditions" "SIOOBE_FORMATTER" "Ljava/util/function/BiFunction;" ∈ hWS := hWS_in (i := 448) (by decide +kernel) (by decide +kernel)
theorem cfJ0_length_8abf5 : hCF yJ0_length_8abf5 cJ0_length_8abf5 1 (some .int) 0 := ⟨hWS_in (i := 425) (by decide +kernel) (by decide +kernel), hWS_in (i := 426) (by decide +kernel) (by decide +kernel), hWS_in (i := 13) (by decide +kernel) (by decide +kernel), hWS_in (i := 427) (by decide +kernel) (by decide +kernel), by decide +kernel⟩
theorem cfJ0_charAt_5068e : hCF yJ0_charAt_5068e cJ0_charAt_5068e 2 (some .char) 1 := ⟨hWS_in (i := 435) (by decide +kernel) (by decide +kernel), hWS_in (i := 436) (by decide +kernel) (by decide +kernel), hWS_in (i := 13) (by decide +kernel) (by decide +kernel), hWS_in (i := 437) (by decide +kernel) (by decide +kernel), by decide +kernel⟩
theorem cfJ0_coder_7d493 : hCF yJ0_coder_7d493 cJ0_coder_7d493 1 (some .byte) 0 := ⟨hWS_in (i := 429) (by decide +kernel) (by decide +kernel), hWS_in (i := 430) (by decide +kernel) (by decide +kernel), hWS_in (i := 13) (by decide +kernel) (by decide +kernel), hWS_in (i := 431) (by decide +kernel) (by decide +kernel), by decide +kernel⟩
theorem cfJ0_isLatin1_aae02 : hCF yJ0_isLatin1_aae02 cJ0_isLatin1_aae02 1 (some .boolean) 0 := ⟨hWS_in (i := 439) (by decide +kernel) (by decide +kernel), hWS_in (i := 440) (by decide +kernel) (by decide +kernel), hWS_in (i := 13) (by decide +kernel) (by decide +kernel), hWS_in (i := 441) (by decide +kernel) (by decide +kernel), by decide +kernel⟩
theorem cfJ0_checkIndex_df160 : hCS yJ0_checkIndex_df160 cJ0_checkIndex_df160 2 (none) 2 := ⟨hWS_in (i := 446) (by decide +kernel) (by decide +kernel), hWS_in (i := 13) (by decide +kernel) (by decide +kernel), hWS_in (i := 447) (by decide +kernel) (by decide +kernel), by decide +kernel⟩
theorem cfJ1_charAt_3b067 : hCS yJ1_charAt_3b067 cJ1_charAt_3b067 2 (some .char) 2 := ⟨hWS_in (i := 443) (by decide +kernel) (by decide +kernel), hWS_in (i := 14) (by decide +kernel) (by decide +kernel), hWS_in (i := 444) (by decide +kernel) (by decide +kernel), by decide +kernel⟩
theorem cfJ3_checkIndex_8e157 : hCS yJ3_checkIndex_8e157 cJ3_checkIndex_8e157 3 (some .int) 3 := ⟨hWS_in (i := 451) (by decide +kernel) (by decide +kernel), hWS_in (i := 15) (by decide +kernel) (by decide +kernel), hWS_in (i := 452) (by decide +kernel) (by decide +kernel), by decide +kernel⟩
theorem sw_m1 : Cond.methodLink "java/lang/String" 335 yJ0_coder_7d493 ∈ hWS := hWS_in (i := 428) (by decide +kernel) (by decide +kernel)
theorem sw_m2 : Cond.methodLink "java/lang/String" 492 yJ0_isLatin1_aae02 ∈ hWS := hWS_in (i := 438) (by decide +kernel) (by decide +kernel)
theorem sw_m3 : Cond.methodLink "java/lang/String" 495 yJ1_charAt_3b067 ∈ hWS := hWS_in (i := 442) (by decide +kernel) (by decide +kernel)
theorem sw_m4 : Cond.methodLink "java/lang/StringLatin1" 9 yJ0_checkIndex_df160 ∈ hWS := hWS_in (i := 445) (by decide +kernel) (by decide +kernel)
theorem sw_m5 : Cond.methodLink "java/lang/String" 1059 yJ3_checkIndex_8e157 ∈ hWS := hWS_in (i := 450) (by decide +kernel) (by decide +kernel)
section SMS
variable {G : Gx} {cc : ByteArray} {own : String} {nV fr lo : Nat} {α β : Type} {a : α} {pc : Nat} {lv : List (Nat × Value)} {st rest : List Value} {w : HW} {X Y : Option α}
theorem sm_nret (C : Cx G cc own nV fr lo) {r : Int32} {x : α} {ρ : α → Option Value × HW} {ty : FieldType} (E : Rx G ρ a (some ty)) (hρ : ρ x = (some (.int r), w)) (hz : narrow ty (.int r) = .int r) (d : decode cc pc = .ok (.ireturn, 1)) : Sm G a pc lv [.int r] w (some x) := by
  obtain ⟨⟨l, D, cA, ad, base⟩, p, e, R, s, m, args, below, meth, c, Q, nL, kc, ks⟩ := G
  obtain ⟨hx, hb, hml, hown, hts, hE, hV, hlk, hfr, hlo, hkc, hks, hnV⟩ := C
  subst hnV
  obtain ⟨E1, E2⟩ := E
  intro hX H locs ls hP hS hl
  cases hX
  rw [hρ] at E2
  rw [E2]
  exact W.zret (v := r) hx hb E1 hz (fun t ht hW => ⟨rfl, by rw [ht]; exact hP, hS.F ht⟩) hS.2.2 d
theorem sm_sgC (C : Cx G cc "java/lang/String" nV fr lo) {q : Nat} (hq : q < 13) (d : decode cc pc = .ok (.getfield 15, 3)) (k : Sm G a (pc + 3) lv (.int 0 :: st) w X) : Sm G a pc lv (.ref (hA G q).1 :: st) w X := by
  obtain ⟨⟨l, D, cA, ad, base⟩, p, e, R, s, m, args, below, meth, c, Q, nL, kc, ks⟩ := G
  obtain ⟨hx, hb, hml, hown, hts, hE, hV, hlk, hfr, hlo, hkc, hks, hnV⟩ := C
  exact fun hX H locs ls hP hS hl => vk_getf hx hb (hV.1 q hq).2.1 hS hown (hts _ sw_cod) (fun _ h => h) d (k hX H locs ls hP hS hl)
theorem sm_sgV (C : Cx G cc "java/lang/String" nV fr lo) {q : Nat} (hq : q < 13) (d : decode cc pc = .ok (.getfield 9, 3)) (k : Sm G a (pc + 3) lv (.ref (hA G q).2 :: st) w X) : Sm G a pc lv (.ref (hA G q).1 :: st) w X := by
  obtain ⟨⟨l, D, cA, ad, base⟩, p, e, R, s, m, args, below, meth, c, Q, nL, kc, ks⟩ := G
  obtain ⟨hx, hb, hml, hown, hts, hE, hV, hlk, hfr, hlo, hkc, hks, hnV⟩ := C
  exact fun hX H locs ls hP hS hl => vk_getf hx hb (hV.1 q hq).2.2.1 hS hown (hts _ sw_val) (fun _ h => h) d (k hX H locs ls hP hS hl)
theorem sm_sal (C : Cx G cc own nV fr lo) {q : Nat} (hq : q < 13) (d : decode cc pc = .ok (.arraylength, 1)) (k : Sm G a (pc + 1) lv (.int (Int32.ofNat (hlen.getD q 0)) :: st) w X) : Sm G a pc lv (.ref (hA G q).2 :: st) w X := by
  obtain ⟨⟨l, D, cA, ad, base⟩, p, e, R, s, m, args, below, meth, c, Q, nL, kc, ks⟩ := G
  obtain ⟨hx, hb, hml, hown, hts, hE, hV, hlk, hfr, hlo, hkc, hks, hnV⟩ := C
  exact fun hX H locs ls hP hS hl => va_tlen hx hb (hV.1 q hq).2.2.2 hS rfl d (k hX H locs ls hP hS hl)
theorem sm_sbl (C : Cx G cc own nV fr lo) {q : Nat} (hq : q < 13) {i : Int32} (hi : inB i (hlen.getD q 0) = true) (d : decode cc pc = .ok (.baload, 1)) (k : Sm G a (pc + 1) lv (.int ((hbyt.getD q []).getD (ix i) 0) :: st) w X) : Sm G a pc lv (.int i :: .ref (hA G q).2 :: st) w X := by
  obtain ⟨⟨l, D, cA, ad, base⟩, p, e, R, s, m, args, below, meth, c, Q, nL, kc, ks⟩ := G
  obtain ⟨hx, hb, hml, hown, hts, hE, hV, hlk, hfr, hlo, hkc, hks, hnV⟩ := C
  exact fun hX H locs ls hP hS hl => va_tb hx hb (hV.1 q hq).2.2.2 hS (inB_in hi) rfl d (k hX H locs ls hP hS hl)
theorem sm_gcs (C : Cx G cc "java/lang/String" nV fr lo) (d : decode cc pc = .ok (.getstatic 38, 3)) (k : Sm G a (pc + 3) lv (.int 1 :: st) w X) : Sm G a pc lv st w X := by
  obtain ⟨⟨l, D, cA, ad, base⟩, p, e, R, s, m, args, below, meth, c, Q, nL, kc, ks⟩ := G
  obtain ⟨hx, hb, hml, hown, hts, hE, hV, hlk, hfr, hlo, hkc, hks, hnV⟩ := C
  exact fun hX H locs ls hP hS hl => va_gets hx hb hV.2.1 hS hown (hts _ sw_cs) (fun _ h => h) d (k hX H locs ls hP hS hl)
theorem sm_gsf (C : Cx G cc "java/lang/String" nV fr lo) (d : decode cc pc = .ok (.getstatic 1053, 3)) (k : ∀ v : Value, v.category = 1 → Sm G a (pc + 3) lv (v :: st) w X) : Sm G a pc lv st w X := by
  obtain ⟨⟨l, D, cA, ad, base⟩, p, e, R, s, m, args, below, meth, c, Q, nL, kc, ks⟩ := G
  obtain ⟨hx, hb, hml, hown, hts, hE, hV, hlk, hfr, hlo, hkc, hks, hnV⟩ := C
  intro hX H locs ls hP hS hl
  rcases hV.2.2 with h | ⟨t, h⟩
  · exact va_gets hx hb h hS hown (hts _ sw_sf) (fun _ h => h) d (k _ rfl hX H locs ls hP hS hl)
  · exact va_gets hx hb h hS hown (hts _ sw_sf) (fun _ h => h) d (k _ rfl hX H locs ls hP hS hl)
theorem sm_callZ {y : MethodName} {cy : ByteArray} {ny fr' lo' n' index : Nat} {ry : Option FieldType} {As : List Value} {f : Option β} {ρ : β → Option Value × HW} {kX : β → Option α} (C : Cx G cc own nV fr lo) (hc : hCF y cy ny ry n') (hw : Cond.methodLink own index y ∈ hWS) {q : Nat} (hq : q < 13) (hcl : y.cls = "java/lang/String") (hn : As.length = n')
    (hR : (Nat.ble (fr' + 1) fr && Nat.ble (8 + (ny + 11) + lo') lo) = true) (hst : st = As.reverse ++ .ref (hA G q).1 :: rest) (hrest : Nat.ble ((rest.map fun v => v.category).sum) 8 = true) (d : decode cc pc = .ok (.invokevirtual index, 3))
    (hM : ∀ r, f = some r → Mt G.1 y cy ny ry fr' lo' (.ref (hA G q).1 :: As) w (ρ r).1 (ρ r).2) (k : ∀ r, f = some r → Sm G a (pc + 3) lv ((ρ r).1.toList ++ rest) (ρ r).2 (kX r)) : Sm G a pc lv st w (bI f kX) := by
  obtain ⟨⟨l, D, cA, ad, base⟩, p, e, R, s, m, args, below, meth, c, Q, nL, kc, ks⟩ := G
  obtain ⟨hx, hb, hml, hown, hts, hE, hV, hlk, hfr, hlo, hkc, hks, hnV⟩ := C
  intro hX H locs ls hP hS hl
  cases hf : f with
  | none => rw [hf] at hX; cases hX
  | some r =>
    rw [hf] at hX
    rw [Bool.and_eq_true] at hR
    have hR1 := Nat.le_of_ble_eq_true hR.1
    have hR2 := Nat.le_of_ble_eq_true hR.2
    obtain ⟨cell, r1, r2, r3, -⟩ := (hV.1 q hq).1.kept (fun x h1 h2 => hS.2.1 x h1 h2)
    have hrv : ∃ cell : Cell, H[(ad q).1]? = some cell ∧ cell.vm.isStatics = false ∧ s.vm.findClass y.cls = some cell.cls := ⟨cell, r1, r2, by rw [hcl]; exact r3⟩
    refine hcall (D := D) (cA := cA) (base := base) (v := (ρ r).1) (w' := (ρ r).2) (aa := (Value.ref (ad q).1 :: As).toArray) (rest := rest) (va_runV (C := y.cls) ⟨hx, hb, hml, hown, hts⟩ (hM r hf) (cwV n' hts (hWS_goodV hc hw) rfl rfl rfl ⟨rfl, hc.2.2.2.2⟩ ⟨Nat.le_trans hR1 hfr, Nat.le_trans hR2 hlo⟩) ⟨hPm_blind, hrv, fun U hU hW => ⟨rfl, by rw [hU]; exact hP, hEnv.warm hW hE, by rw [hU]; exact (hV.kept (fun x h1 h2 => hS.2.1 x h1 h2)).moved hW.alike⟩⟩ rfl hn hl.1 hst (lv_room (Nat.le_of_ble_eq_true hrest)) d ⟨hkc, hks⟩) hS (fun H1 locs1 hP1 hS1 => k r hf hX H1 locs1 ls hP1 hS1 hl)
end SMS
def sLn (q : Nat) : Int32 := iSr (Int32.ofNat (hlen.getD q 0)) 0
def sCh (q : Nat) (k : Int32) : Int32 := iC ((hbyt.getD q []).getD (ix k) 0 &&& 255)
theorem sCh_ok : ∀ q, q < 13 → ∀ j, j < hlen.getD q 0 → narrow .char (.int (iC ((hbyt.getD q []).getD j 0 &&& 255))) = .int (iC ((hbyt.getD q []).getD j 0 &&& 255)) := by decide +kernel
theorem mJ0_coder_7d493 {b : Bx} {w : HW} {q : Nat} (hq : q < 13) : Mt b yJ0_coder_7d493 cJ0_coder_7d493 1 (some .byte) 0 0 [.ref (bA b q).1] w (some (.int 0)) w := by
  refine Mt.of (X := some (0 : Int32)) (ρI w) rfl (by decide) (Nat.le_of_ble_eq_true rfl) (fun G hG C E => ?_)
  subst hG
  have C : Cx G cJ0_coder_7d493 "java/lang/String" 1 0 0 := C
  change Sm G _ 0 [(0, .ref (hA G q).1)] [] w _
  refine sm_gcs C dJ0_coder_7d493_0 ?_
  rw [show some (0 : Int32) = (if ¬ (1 : Int32) = 0 then some (0 : Int32) else some 0) by rfl]
  refine sm_if_eq C dJ0_coder_7d493_3 (tgt := 13) rfl (fun _ => ?_) (fun h => absurd h (by decide))
  refine sm_aload_n C 0 rfl dJ0_coder_7d493_6 rfl ?_
  refine sm_sgC C hq dJ0_coder_7d493_7 ?_
  refine sm_goto C dJ0_coder_7d493_10 (tgt := 14) rfl ?_
  exact sm_nret C E rfl rfl dJ0_coder_7d493_14
theorem mJ0_isLatin1_aae02 {b : Bx} {w : HW} {q : Nat} (hq : q < 13) : Mt b yJ0_isLatin1_aae02 cJ0_isLatin1_aae02 1 (some .boolean) 0 0 [.ref (bA b q).1] w (some (.int 1)) w := by
  refine Mt.of (X := some (1 : Int32)) (ρI w) rfl (by decide) (Nat.le_of_ble_eq_true rfl) (fun G hG C E => ?_)
  subst hG
  have C : Cx G cJ0_isLatin1_aae02 "java/lang/String" 1 0 0 := C
  change Sm G _ 0 [(0, .ref (hA G q).1)] [] w _
  refine sm_gcs C dJ0_isLatin1_aae02_0 ?_
  rw [show some (1 : Int32) = (if ¬ (1 : Int32) = 0 then (if (0 : Int32) = 0 then some (1 : Int32) else some 1) else some 1) by rfl]
  refine sm_if_eq C dJ0_isLatin1_aae02_3 (tgt := 17) rfl (fun _ => ?_) (fun h => absurd h (by decide))
  refine sm_aload_n C 0 rfl dJ0_isLatin1_aae02_6 rfl ?_
  refine sm_sgC C hq dJ0_isLatin1_aae02_7 ?_
  refine sm_if_ne C dJ0_isLatin1_aae02_10 (tgt := 17) rfl (fun _ => ?_) (fun h => absurd rfl h)
  refine sm_iconst C ic_1 dJ0_isLatin1_aae02_13 ?_
  refine sm_goto C dJ0_isLatin1_aae02_14 (tgt := 18) rfl ?_
  exact sm_nret C E rfl rfl dJ0_isLatin1_aae02_18
theorem mJ0_length_8abf5 {b : Bx} {w : HW} {q : Nat} (hq : q < 13) : Mt b yJ0_length_8abf5 cJ0_length_8abf5 1 (some .int) 1 20 [.ref (bA b q).1] w (some (.int (sLn q))) w := by
  refine Mt.of (X := bI (some (0 : Int32)) fun r => some (iSr (Int32.ofNat (hlen.getD q 0)) r)) (ρI w) rfl (by decide) (Nat.le_of_ble_eq_true rfl) (fun G hG C E => ?_)
  subst hG
  have C : Cx G cJ0_length_8abf5 "java/lang/String" 1 1 20 := C
  change Sm G _ 0 [(0, .ref (hA G q).1)] [] w _
  refine sm_aload_n C 0 rfl dJ0_length_8abf5_0 rfl ?_
  refine sm_sgV C hq dJ0_length_8abf5_1 ?_
  refine sm_sal C hq dJ0_length_8abf5_4 ?_
  refine sm_aload_n C 0 rfl dJ0_length_8abf5_5 rfl ?_
  refine sm_callZ (As := []) (ρ := ρI w) C cfJ0_coder_7d493 sw_m1 hq rfl rfl rfl rfl rfl dJ0_length_8abf5_6 (fun r h => by cases h; exact mJ0_coder_7d493 hq) (fun r hr => ?_)
  change Sm G _ (6 + 3) _ (.int r :: .int (Int32.ofNat (hlen.getD q 0)) :: []) w _
  refine sm_ishr C dJ0_length_8abf5_9 ?_
  exact sm_iret C E rfl dJ0_length_8abf5_10
theorem mJ3_checkIndex_8e157 {b : Bx} {w : HW} {i n : Int32} {v : Value} (hv : v.category = 1) (h0 : ¬ i < 0) (h1 : i < n) : Mt b yJ3_checkIndex_8e157 cJ3_checkIndex_8e157 3 (some .int) 0 0 [.int i, .int n, v] w (some (.int i)) w := by
  refine Mt.of (X := if ¬ i < 0 then (if ¬ i < n then none else some i) else none) (ρI w) (by rw [if_pos h0, if_neg (fun z => z h1)]) (by decide) ?_ (fun G hG C E => ?_)
  · cases v <;> first | exact Nat.le_of_ble_eq_true rfl | cases hv
  subst hG
  have C : Cx G cJ3_checkIndex_8e157 "jdk/internal/util/Preconditions" 3 0 0 := C
  change Sm G _ 0 [(0, .int i), (1, .int n), (2, v)] [] w _
  refine sm_iload_n C 0 rfl dJ3_checkIndex_8e157_0 rfl ?_
  refine sm_if_lt C dJ3_checkIndex_8e157_1 (tgt := 9) rfl (fun _ => ?_) (fun h => absurd h h0)
  refine sm_iload_n C 0 rfl dJ3_checkIndex_8e157_4 rfl ?_
  refine sm_iload_n C 1 rfl dJ3_checkIndex_8e157_5 rfl ?_
  refine sm_icmp_lt C dJ3_checkIndex_8e157_6 (tgt := 16) rfl (fun h => absurd h1 h) (fun _ => ?_)
  refine sm_iload_n C 0 rfl dJ3_checkIndex_8e157_16 rfl ?_
  exact sm_iret C E rfl dJ3_checkIndex_8e157_17
theorem mJ0_checkIndex_df160 {b : Bx} {w : HW} {i n : Int32} (h0 : ¬ i < 0) (h1 : i < n) : Mt b yJ0_checkIndex_df160 cJ0_checkIndex_df160 2 none 1 22 [.int i, .int n] w none w := by
  refine Mt.of (X := bI (some i) fun _ => some ()) (fun _ : Unit => (none, w)) rfl (by decide) (Nat.le_of_ble_eq_true rfl) (fun G hG C E => ?_)
  subst hG
  have C : Cx G cJ0_checkIndex_df160 "java/lang/String" 2 1 22 := C
  change Sm G _ 0 [(0, .int i), (1, .int n)] [] w _
  refine sm_iload_n C 0 rfl dJ0_checkIndex_df160_0 rfl ?_
  refine sm_iload_n C 1 rfl dJ0_checkIndex_df160_1 rfl ?_
  refine sm_gsf C dJ0_checkIndex_df160_2 (fun v hv => ?_)
  refine sm_callS (As := [.int i, .int n, v]) (ρ := ρI w) C cfJ3_checkIndex_8e157 sw_m5 rfl rfl rfl rfl dJ0_checkIndex_df160_5 (fun r h => by cases h; exact mJ3_checkIndex_8e157 hv h0 h1) (fun r hr => ?_)
  change Sm G _ (5 + 3) _ (.int r :: []) w _
  refine sm_pop C rfl dJ0_checkIndex_df160_8 ?_
  exact sm_vret C E rfl dJ0_checkIndex_df160_9
theorem inB_ltn {i : Int32} {n : Nat} (hn : n < 2 ^ 31) (h : inB i n = true) : i < Int32.ofNat n := by
  simp only [inB, Bool.and_eq_true, decide_eq_true_eq] at h
  obtain ⟨h1, h2⟩ := h
  rw [Int32.lt_iff_toInt_lt, Int32.toInt_ofNat_of_lt hn]
  have h3 : (0 : Int) ≤ i.toInt := by
    have := Int32.not_lt.mp h1
    simpa using Int32.le_iff_toInt_le.mp this
  have h4 : i.toNatClampNeg = i.toInt.toNat := rfl
  omega
theorem hlen_lt : ∀ q, q < 13 → hlen.getD q 0 < 2 ^ 31 := by decide +kernel
theorem mJ1_charAt_3b067 {b : Bx} {w : HW} {q : Nat} {k : Int32} (hq : q < 13) (hk : inB k (hlen.getD q 0) = true) : Mt b yJ1_charAt_3b067 cJ1_charAt_3b067 2 (some .char) 2 43 [.ref (bA b q).2, .int k] w (some (.int (sCh q k))) w := by
  refine Mt.of (X := bI (some ()) fun _ => some (sCh q k)) (ρI w) rfl (by decide) (Nat.le_of_ble_eq_true rfl) (fun G hG C E => ?_)
  subst hG
  have C : Cx G cJ1_charAt_3b067 "java/lang/StringLatin1" 2 2 43 := C
  change Sm G _ 0 [(0, .ref (hA G q).2), (1, .int k)] [] w _
  refine sm_iload_n C 1 rfl dJ1_charAt_3b067_0 rfl ?_
  refine sm_aload_n C 0 rfl dJ1_charAt_3b067_1 rfl ?_
  refine sm_sal C hq dJ1_charAt_3b067_2 ?_
  have h0 : ¬ k < 0 := by
    have h := hk
    simp only [inB, Bool.and_eq_true, decide_eq_true_eq] at h
    exact h.1
  refine sm_callS (As := [.int k, .int (Int32.ofNat (hlen.getD q 0))]) (ρ := fun _ : Unit => (none, w)) C cfJ0_checkIndex_df160 sw_m4 rfl rfl rfl rfl dJ1_charAt_3b067_3 (fun r h => mJ0_checkIndex_df160 h0 (inB_ltn (hlen_lt q hq) hk)) (fun r hr => ?_)
  change Sm G _ (3 + 3) _ [] w _
  refine sm_aload_n C 0 rfl dJ1_charAt_3b067_6 rfl ?_
  refine sm_iload_n C 1 rfl dJ1_charAt_3b067_7 rfl ?_
  refine sm_sbl C hq hk dJ1_charAt_3b067_8 ?_
  refine sm_sipush C (v := 255) (by decide) dJ1_charAt_3b067_9 ?_
  refine sm_iand C dJ1_charAt_3b067_12 ?_
  refine sm_i2c C dJ1_charAt_3b067_13 ?_
  exact sm_nret C E rfl (sCh_ok q hq _ (inB_lt hk)) dJ1_charAt_3b067_14
theorem mJ0_charAt_5068e {b : Bx} {w : HW} {q : Nat} {k : Int32} (hq : q < 13) (hk : inB k (hlen.getD q 0) = true) : Mt b yJ0_charAt_5068e cJ0_charAt_5068e 2 (some .char) 3 64 [.ref (bA b q).1, .int k] w (some (.int (sCh q k))) w := by
  refine Mt.of (X := bI (some (1 : Int32)) fun r => if ¬ r = 0 then bI (some (sCh q k)) fun z => some z else none) (ρI w) rfl (by decide) (Nat.le_of_ble_eq_true rfl) (fun G hG C E => ?_)
  subst hG
  have C : Cx G cJ0_charAt_5068e "java/lang/String" 2 3 64 := C
  change Sm G _ 0 [(0, .ref (hA G q).1), (1, .int k)] [] w _
  refine sm_aload_n C 0 rfl dJ0_charAt_5068e_0 rfl ?_
  have e1 : (fun r : Int32 => if ¬ r = 0 then bI (some (sCh q k)) fun z => some z else none) = fun r : Int32 => if ¬ r = 0 then (bI (some (sCh q k)) fun z => some z) else none := rfl
  refine sm_callZ (As := []) (ρ := ρI w) C cfJ0_isLatin1_aae02 sw_m2 hq rfl rfl rfl rfl rfl dJ0_charAt_5068e_1 (fun r h => by cases h; exact mJ0_isLatin1_aae02 hq) (fun r hr => ?_)
  change Sm G _ (1 + 3) _ (.int r :: []) w _
  refine sm_if_eq C dJ0_charAt_5068e_4 (tgt := 16) rfl (fun _ => ?_) (fun _ => sm_none)
  refine sm_aload_n C 0 rfl dJ0_charAt_5068e_7 rfl ?_
  refine sm_sgV C hq dJ0_charAt_5068e_8 ?_
  refine sm_iload_n C 1 rfl dJ0_charAt_5068e_11 rfl ?_
  refine sm_callS (As := [.ref (hA G q).2, .int k]) (ρ := ρI w) C cfJ1_charAt_3b067 sw_m3 rfl rfl rfl rfl dJ0_charAt_5068e_12 (fun r h => by cases h; exact mJ1_charAt_3b067 hq hk) (fun z hz => ?_)
  cases hz
  change Sm G _ (12 + 3) _ (.int (sCh q k) :: []) w _
  exact sm_nret C E rfl (sCh_ok q hq _ (inB_lt hk)) dJ0_charAt_5068e_15
section SMT
variable {G : Gx} {cc : ByteArray} {own : String} {nV fr lo : Nat} {α β : Type} {a : α} {pc : Nat} {lv : List (Nat × Value)} {st rest : List Value} {w : HW} {X Y : Option α}
theorem sm_slen (C : Cx G cc own nV fr lo) {q index : Nat} (hw : Cond.methodLink own index yJ0_length_8abf5 ∈ hWS) (hR : (Nat.ble 2 fr && Nat.ble (8 + (1 + 11) + 20) lo && Nat.ble ((st.map fun v => v.category).sum) 8) = true) (d : decode cc pc = .ok (.invokevirtual index, 3)) (k : decide (q < 13) = true → Sm G a (pc + 3) lv (.int (sLn q) :: st) w X) : Sm G a pc lv (.ref (hA G q).1 :: st) w (if decide (q < 13) = true then X else none) := by
  refine sm_chk (fun h => ?_)
  have hq := of_decide_eq_true h
  rw [Bool.and_eq_true] at hR
  exact sm_callZ (As := []) (ρ := ρI w) (f := some (sLn q)) (kX := fun _ => X) C cfJ0_length_8abf5 hw hq rfl rfl hR.1 rfl hR.2 d (fun r hr => by cases hr; exact mJ0_length_8abf5 hq) (fun r hr => by cases hr; exact k h)
theorem sm_schr (C : Cx G cc own nV fr lo) {q index : Nat} {j : Int32} (hw : Cond.methodLink own index yJ0_charAt_5068e ∈ hWS) (hR : (Nat.ble 4 fr && Nat.ble (8 + (2 + 11) + 64) lo && Nat.ble ((st.map fun v => v.category).sum) 8) = true) (d : decode cc pc = .ok (.invokevirtual index, 3)) (k : (decide (q < 13) && inB j (hlen.getD q 0)) = true → Sm G a (pc + 3) lv (.int (sCh q j) :: st) w X) : Sm G a pc lv (.int j :: .ref (hA G q).1 :: st) w (if (decide (q < 13) && inB j (hlen.getD q 0)) = true then X else none) := by
  refine sm_chk (fun h => ?_)
  have h2 := h
  rw [Bool.and_eq_true] at h2
  have hq := of_decide_eq_true h2.1
  rw [Bool.and_eq_true] at hR
  exact sm_callZ (As := [.int j]) (ρ := ρI w) (f := some (sCh q j)) (kX := fun _ => X) C cfJ0_charAt_5068e hw hq rfl rfl hR.1 rfl hR.2 d (fun r hr => by cases hr; exact mJ0_charAt_5068e hq h2.2) (fun r hr => by cases hr; exact k h)
end SMT
