/-! CALLS -/
def Mt (b : Bx) (y : MethodName) (cc : ByteArray) (n : Nat) (ret : Option FieldType) (fr lo : Nat) (av : List Value) (w : HW) (v : Option Value) (w' : HW) : Prop :=
  Met b.1 y (hwy y cc n ret) ({ frames := fr, cells := 0, slots := 0, locals := lo }) (hPm b.2.1 b.2.2.1 b.2.2.2.1 b.2.2.2.2 av w) (hQm b.2.1 b.2.2.1 b.2.2.2.2 v w') 0 0 (hAb b.2.2.2.2)
/-- a method's contract out of its walk -/
theorem Mt.of {α : Type} {b : Bx} {y : MethodName} {cc : ByteArray} {n fr lo : Nat} {ret : Option FieldType} {av : List Value} {w : HW} {a : α} {X : Option α} (ρ : α → Option Value × HW) (hX : X = some a) (hy : plainName y.cls = true) (hlen : (lg_sl av).length ≤ n)
    (k : ∀ G : Gx, G.1 = b → Cx G cc y.cls n fr lo → Rx G ρ a ret → Sm G a 0 (lv_args 0 av) [] w X) : Mt b y cc n ret fr lo av w (ρ a).1 (ρ a).2 := by
  obtain ⟨l, D, cA, ad, base⟩ := b
  refine Met.ofW (cc := cc) (maxL := n) (ret := ret) hy rfl ?_
  intro p e s m args below meth c s₁ B hml hv
  obtain ⟨rfl, hP, hE, hV⟩ := hv
  have hl := lv_entry av hlen
  rw [lg_entry_eq]
  exact k ((l, D, cA, ad, base), p, e, (headSpec (hwy y cc n ret) ({ frames := fr, cells := 0, slots := 0, locals := lo })).room, s, m, av.toArray, below, meth, c, MQ below (hQm D cA base (ρ a).1 (ρ a).2) av.toArray s 0 0 (hAb base), n, 0, 0) rfl
    ⟨B.exec, B.bytes, hml, findClass_of_methodNamed B.named, fun w hw => atoms_spec (ws := hwy y cc n ret) B.pre w (List.mem_cons_of_mem _ hw), hE, hV, B.notSynchronized, Nat.le_refl _, Nat.le_refl _, Nat.zero_le _, Nat.zero_le _, rfl⟩
    ⟨B.returns, rfl⟩ hX s.heap [] _ hP va_S.rf hl
section HC
variable {p : Program} {l : Launch} {e : Env} {R : Room} {s : State} {m : MethodId} {args : Array Value} {below : List Frame} {meth : Method} {c : Code} {H : Heap} {locs : List Loc} {cells slots : Nat} {Q : State → Prop}
theorem hcall {pc : Nat} {ls : Array Slot} {rest st0 : List Value} {aa : Array Value} {D : va_G} {cA : Nat → ClassId} {base : Nat} {v : Option Value} {w' : HW} (hr : va_Run p l e R s m args below meth c H locs cells slots 0 0 (F0 m pc ls st0) rest (hQm D cA base v w' aa) (hAb base)) (hS : va_S (hAb base) s.heap H locs)
    (kk : ∀ (H1 : Heap) (locs1 : List Loc), va_P D vwCl (hws cA base w') H1 → va_S (hAb base) s.heap H1 locs1 → W p l e R s m args below meth c H1 locs1 cells slots Q (F0 m (pc + 3) ls (v.toList ++ rest))) : W p l e R s m args below meth c H locs cells slots Q (F0 m pc ls st0) := by
  intro T hT X
  obtain ⟨v0, st₀, t, T', L, h0, X', hL, e1, e2, ⟨hv, hp, hz, hk⟩, st⟩ := hr T hT X
  cases hv
  rw [h0] at hz hk
  obtain ⟨t2, a1, b1⟩ := kk T'.heap (locs ++ L) (by rw [e1]; exact hp)
    ⟨Nat.le_trans hS.1 (by rw [e1]; exact hz), fun q h1 h2 => by rw [e1, hk q (Nat.lt_of_lt_of_le h1 hS.1) h2]; exact hS.2.1 q h1 h2, fun q hq => by
      rcases List.mem_append.mp hq with h | h
      · exact hS.2.2 q h
      · exact hL q h⟩ T' rfl X'
  exact ⟨t2, st t2 a1, b1⟩
end HC
theorem hWS_goodV {own : String} {index : Nat} {y : MethodName} {cc : ByteArray} {n n' : Nat} {ret : Option FieldType} (h : hCF y cc n ret n') (hw : Cond.methodLink own index y ∈ hWS) : GoodIn hWS (wsV own index y.cls y (hwy y cc n ret)) := by
  intro w hh
  simp only [wsV, List.mem_append, List.mem_cons, List.not_mem_nil, or_false] at hh
  rcases hh with (rfl | rfl | rfl | rfl) | rfl | hh
  · exact hWS_good _ hw
  · exact hWS_good _ h.1
  · exact hWS_good _ h.2.1
  · exact hWS_good _ h.2.2.1
  · exact hWS_good _ h.2.2.2.1
  · exact hWS_good _ hh
section SMC
variable {G : Gx} {cc : ByteArray} {own : String} {nV fr lo : Nat} {α β : Type} {a : α} {pc : Nat} {lv : List (Nat × Value)} {st rest : List Value} {w : HW}
variable {y : MethodName} {cy : ByteArray} {ny fr' lo' n' index : Nat} {ry : Option FieldType} {As : List Value} {f : Option β} {ρ : β → Option Value × HW} {kX : β → Option α}
theorem sm_callV (C : Cx G cc own nV fr lo) (hc : hCF y cy ny ry n') (hw : Cond.methodLink own index y ∈ hWS) {idx ci : Nat} (hk : hkd idx = (0, ci)) (hcl : (vwCl.getD ci ("", fun _ => ("", "", "", false), 0)).1 = y.cls) (hn : As.length = n')
    (hR : (Nat.ble (fr' + 1) fr && Nat.ble (8 + (ny + 11) + lo') lo) = true) (hst : st = As.reverse ++ .ref (hB G + idx) :: rest) (hrest : Nat.ble ((rest.map fun v => v.category).sum) 8 = true) (d : decode cc pc = .ok (.invokevirtual index, 3))
    (hM : ∀ r, f = some r → Mt G.1 y cy ny ry fr' lo' (.ref (hB G + idx) :: As) w (ρ r).1 (ρ r).2) (k : ∀ r, f = some r → Sm G a (pc + 3) lv ((ρ r).1.toList ++ rest) (ρ r).2 (kX r)) : Sm G a pc lv st w (bI f kX) := by
  obtain ⟨⟨l, D, cA, ad, base⟩, p, e, R, s, m, args, below, meth, c, Q, nL, kc, ks⟩ := G
  obtain ⟨hx, hb, hml, hown, hts, hE, hV, hlk, hfr, hlo, hkc, hks, hnV⟩ := C
  intro hX H locs ls hP hS hl
  cases hf : f with
  | none => rw [hf] at hX; cases hX
  | some r =>
    rw [hf] at hX
    rw [Bool.and_eq_true] at hR
    have hR1 := Nat.le_of_ble_eq_true hR.1
    have hR2 := Nat.le_of_ble_eq_true hR.2
    have hat := hws_at (cA := cA) (base := base) (w := w) (hkd_lt hk (by decide))
    rw [hent_obj hk] at hat
    have hci : ∃ q, vwCl[ci]? = some q := by
      obtain ⟨q, h1, -⟩ := hP idx _ hat
      exact ⟨q, h1⟩
    obtain ⟨q, hq⟩ := hci
    have hqc : q.1 = y.cls := by rw [← hcl, List.getD_eq_getElem?_getD, hq]; rfl
    have hrv := va_recv hE.1 hP hq hat
    rw [hqc] at hrv
    refine hcall (D := D) (cA := cA) (base := base) (v := (ρ r).1) (w' := (ρ r).2) (aa := (Value.ref (base + idx) :: As).toArray) (rest := rest) (va_runV (C := y.cls) ⟨hx, hb, hml, hown, hts⟩ (hM r hf) (cwV n' hts (hWS_goodV hc hw) rfl rfl rfl ⟨rfl, hc.2.2.2.2⟩ ⟨Nat.le_trans hR1 hfr, Nat.le_trans hR2 hlo⟩) ⟨hPm_blind, hrv, fun U hU hW => ⟨rfl, by rw [hU]; exact hP, hEnv.warm hW hE, by rw [hU]; exact (hV.kept (fun x h1 h2 => hS.2.1 x h1 h2)).moved hW.alike⟩⟩ rfl hn hl.1 hst (lv_room (Nat.le_of_ble_eq_true hrest)) d ⟨hkc, hks⟩) hS (fun H1 locs1 hP1 hS1 => k r hf hX H1 locs1 ls hP1 hS1 hl)
theorem sm_callS (C : Cx G cc own nV fr lo) (hc : hCS y cy ny ry n') (hw : Cond.methodLink own index y ∈ hWS) (hn : As.length = n')
    (hR : (Nat.ble (fr' + 1) fr && Nat.ble (8 + (ny + 11) + lo') lo) = true) (hst : st = As.reverse ++ rest) (hrest : Nat.ble ((rest.map fun v => v.category).sum) 8 = true) (d : decode cc pc = .ok (.invokestatic index, 3))
    (hM : ∀ r, f = some r → Mt G.1 y cy ny ry fr' lo' As w (ρ r).1 (ρ r).2) (k : ∀ r, f = some r → Sm G a (pc + 3) lv ((ρ r).1.toList ++ rest) (ρ r).2 (kX r)) : Sm G a pc lv st w (bI f kX) := by
  obtain ⟨⟨l, D, cA, ad, base⟩, p, e, R, s, m, args, below, meth, c, Q, nL, kc, ks⟩ := G
  obtain ⟨hx, hb, hml, hown, hts, hE, hV, hlk, hfr, hlo, hkc, hks, hnV⟩ := C
  intro hX H locs ls hP hS hl
  cases hf : f with
  | none => rw [hf] at hX; cases hX
  | some r =>
    rw [hf] at hX
    rw [Bool.and_eq_true] at hR
    have hR1 := Nat.le_of_ble_eq_true hR.1
    have hR2 := Nat.le_of_ble_eq_true hR.2
    refine hcall (D := D) (cA := cA) (base := base) (v := (ρ r).1) (w' := (ρ r).2) (aa := As.toArray) (rest := rest) (va_runS ⟨hx, hb, hml, hown, hts⟩ (hM r hf) ⟨callB_of n' hts (hWS_goodc hc.2.2.1) rfl rfl rfl (hts _ hc.2.1) (hts _ hw) hc.2.2.2 ⟨Nat.le_trans hR1 hfr, Nat.le_trans hR2 hlo⟩, hts _ hc.1⟩ ⟨hPm_blind, fun U hU hW => ⟨rfl, by rw [hU]; exact hP, hEnv.warm hW hE, by rw [hU]; exact (hV.kept (fun x h1 h2 => hS.2.1 x h1 h2)).moved hW.alike⟩⟩ rfl hn hl.1 hst (lv_room (Nat.le_of_ble_eq_true hrest)) d ⟨hkc, hks⟩) hS (fun H1 locs1 hP1 hS1 => k r hf hX H1 locs1 ls hP1 hS1 hl)
theorem sm_callN (C : Cx G cc own nV fr lo) (hc : hCS y cy ny ry n') {host : String} (j : Nat) (hw : hnl[j]? = some (own, index, y, host)) (hn : As.length = n')
    (hR : (Nat.ble (fr' + 1) fr && Nat.ble (8 + (ny + 11) + lo') lo) = true) (hst : st = As.reverse ++ rest) (hrest : Nat.ble ((rest.map fun v => v.category).sum) 8 = true) (d : decode cc pc = .ok (.invokestatic index, 3))
    (hM : ∀ r, f = some r → Mt G.1 y cy ny ry fr' lo' As w (ρ r).1 (ρ r).2) (k : ∀ r, f = some r → Sm G a (pc + 3) lv ((ρ r).1.toList ++ rest) (ρ r).2 (kX r)) : Sm G a pc lv st w (bI f kX) := by
  obtain ⟨⟨l, D, cA, ad, base⟩, p, e, R, s, m, args, below, meth, c, Q, nL, kc, ks⟩ := G
  obtain ⟨hx, hb, hml, hown, hts, hE, hV, hlk, hfr, hlo, hkc, hks, hnV⟩ := C
  intro hX H locs ls hP hS hl
  cases hf : f with
  | none => rw [hf] at hX; cases hX
  | some r =>
    rw [hf] at hX
    rw [Bool.and_eq_true] at hR
    have hR1 := Nat.le_of_ble_eq_true hR.1
    have hR2 := Nat.le_of_ble_eq_true hR.2
    refine hcall (D := D) (cA := cA) (base := base) (v := (ρ r).1) (w' := (ρ r).2) (aa := As.toArray) (rest := rest) (va_runSN ⟨hx, hb, hml, hown, hts⟩ (hM r hf) ⟨va_cnB n' hts (hWS_goodc hc.2.2.1) rfl rfl rfl (hE.2.1 _ (List.mem_of_getElem? hw)) (hts _ hc.2.1) hc.2.2.2 ⟨Nat.le_trans hR1 hfr, Nat.le_trans hR2 hlo⟩, hts _ hc.1, trivial⟩ ⟨hPm_blind, fun U hU hW => ⟨rfl, by rw [hU]; exact hP, hEnv.warm hW hE, by rw [hU]; exact (hV.kept (fun x h1 h2 => hS.2.1 x h1 h2)).moved hW.alike⟩⟩ rfl hn hl.1 hst (lv_room (Nat.le_of_ble_eq_true hrest)) d ⟨hkc, hks⟩) hS (fun H1 locs1 hP1 hS1 => k r hf hX H1 locs1 ls hP1 hS1 hl)
theorem sm_max (C : Cx G cc own nV fr lo) {x z : Int32} {X : Option α} (hw : Cond.methodLink own index Lib.Math.max.name ∈ hWS) (h1 : Cond.static Lib.Math.max.name ∈ hWS) (h2 : Cond.initialized "java/lang/Math" ∈ hWS) (h3 : Cond.code Lib.Math.max.name Lib.Math.max.code 2 (some .int) ∈ hWS) (hR : (Nat.ble 1 fr && Nat.ble ((rest.map fun v => v.category).sum + 13) lo) = true) (d : decode cc pc = .ok (.invokestatic index, 3))
    (k : Sm G a (pc + 3) lv (.int (iMx x z) :: rest) w X) : Sm G a pc lv (.int z :: .int x :: rest) w X := by
  obtain ⟨⟨l, D, cA, ad, base⟩, p, e, R, s, m, args, below, meth, c, Q, nL, kc, ks⟩ := G
  obtain ⟨hx, hb, hml, hown, hts, hE, hV, hlk, hfr, hlo, hkc, hks, hnV⟩ := C
  rw [Bool.and_eq_true] at hR
  exact fun hX H locs ls hP hS hl => va_mmax hx hb (hml.trans hl.1.symm) hown (hts _ hw) (hts _ h1) (hts _ h2) (hts _ h3) (Nat.le_trans (Nat.le_of_ble_eq_true hR.1) hfr) (Nat.le_trans (Nat.le_of_ble_eq_true hR.2) hlo) hkc hks d (k hX H locs ls hP hS hl)
theorem sm_min (C : Cx G cc own nV fr lo) {x z : Int32} {X : Option α} (hw : Cond.methodLink own index Lib.Math.min.name ∈ hWS) (h1 : Cond.static Lib.Math.min.name ∈ hWS) (h2 : Cond.initialized "java/lang/Math" ∈ hWS) (h3 : Cond.code Lib.Math.min.name Lib.Math.min.code 2 (some .int) ∈ hWS) (hR : (Nat.ble 1 fr && Nat.ble ((rest.map fun v => v.category).sum + 13) lo) = true) (d : decode cc pc = .ok (.invokestatic index, 3))
    (k : Sm G a (pc + 3) lv (.int (iMn x z) :: rest) w X) : Sm G a pc lv (.int z :: .int x :: rest) w X := by
  obtain ⟨⟨l, D, cA, ad, base⟩, p, e, R, s, m, args, below, meth, c, Q, nL, kc, ks⟩ := G
  obtain ⟨hx, hb, hml, hown, hts, hE, hV, hlk, hfr, hlo, hkc, hks, hnV⟩ := C
  rw [Bool.and_eq_true] at hR
  exact fun hX H locs ls hP hS hl => va_mmin hx hb (hml.trans hl.1.symm) hown (hts _ hw) (hts _ h1) (hts _ h2) (hts _ h3) (Nat.le_trans (Nat.le_of_ble_eq_true hR.1) hfr) (Nat.le_trans (Nat.le_of_ble_eq_true hR.2) hlo) hkc hks d (k hX H locs ls hP hS hl)
/-- a piece of an int row (of a long one) is put on another, or on its own -/
def cpB (sp dp n : Int32) (n0 n1 : Nat) : Bool := decide (¬ sp < 0) && decide (¬ dp < 0) && decide (¬ n < 0) && decide (ix sp + ix n ≤ n0) && decide (ix dp + ix n ≤ n1)
theorem sm_copyI (C : Cx G cc own nV fr lo) {sp dp n : Int32} {c0 c1 n0 n1 : Nat} {kX : HW → Option α} (hk0 : hkd c0 = (1, n0)) (hk1 : hkd c1 = (1, n1)) (hw : Cond.methodLink own index arraycopyName ∈ hWS) (h0 : Cond.native arraycopyName ∈ hWS) (h1 : Cond.static arraycopyName ∈ hWS) (h2 : Cond.initialized "java/lang/System" ∈ hWS) (hR : (Nat.ble 1 fr && Nat.ble ((rest.map fun v => v.category).sum + (nativeFrameWords "java/lang/System" "arraycopy" 5 + 11)) lo) = true) (d : decode cc pc = .ok (.invokestatic index, 3))
    (k : ∀ w1, Sm G a (pc + 3) lv rest w1 (kX w1)) : Sm G a pc lv (.int n :: .int dp :: .ref (hB G + c1) :: .int sp :: .ref (hB G + c0) :: rest) w (if cpB sp dp n n0 n1 = true then lT (uC w c0 c1 (ix sp) (ix dp) (ix n)) kX else none) := by
  refine sm_chk (fun hin => ?_)
  simp only [cpB, Bool.and_eq_true, decide_eq_true_eq] at hin
  obtain ⟨⟨⟨⟨g1, g2⟩, g3⟩, g4⟩, g5⟩ := hin
  obtain ⟨⟨l, D, cA, ad, base⟩, p, e, R, s, m, args, below, meth, c, Q, nL, kc, ks⟩ := G
  obtain ⟨hx, hb, hml, hown, hts, hE, hV, hlk, hfr, hlo, hkc, hks, hnV⟩ := C
  rw [Bool.and_eq_true] at hR
  intro hX H locs ls hP hS hl
  have ha0 := hws_at (cA := cA) (base := base) (w := w) (hkd_lt hk0 (by decide))
  have ha1 := hws_at (cA := cA) (base := base) (w := w) (hkd_lt hk1 (by decide))
  rw [hent_arrI 1 (by decide) hk0] at ha0
  rw [hent_arrI 1 (by decide) hk1] at ha1
  refine va_copyi (A := fun q => base ≤ q) (ty := .int) hx hb (hml.trans hl.1.symm) hown (hts _ hw) (hts _ h0) (hts _ h1) (hts _ h2) hE.1 hP hws_D hS c0 c1 0 0 ha0 ha1 rfl rfl rfl g1 g2 g3 g4 g5 (fun _ _ => rfl) (Nat.le_trans (Nat.le_of_ble_eq_true hR.1) hfr) (Nat.le_trans (Nat.le_of_ble_eq_true hR.2) hlo) d (fun H1 locs1 hP1 hD1 hS1 => ?_)
  rw [hws_set (w' := uC w c0 c1 (ix sp) (ix dp) (ix n))] at hP1
  · exact k _ hX H1 locs1 ls hP1 hS1 hl
  · rw [hent_arrI 1 (by decide) hk1]
    congr 4
    funext j
    simp [va_cpy, gI, uC, ix]
  · intro j hj
    refine hent_congr (fun f => ?_) (fun f => ?_) (fun f => ?_)
    all_goals simp [gI, gL, gR, uC, hj]
theorem sm_copyL (C : Cx G cc own nV fr lo) {sp dp n : Int32} {c0 c1 n0 n1 : Nat} {kX : HW → Option α} (hk0 : hkd c0 = (2, n0)) (hk1 : hkd c1 = (2, n1)) (hw : Cond.methodLink own index arraycopyName ∈ hWS) (h0 : Cond.native arraycopyName ∈ hWS) (h1 : Cond.static arraycopyName ∈ hWS) (h2 : Cond.initialized "java/lang/System" ∈ hWS) (hR : (Nat.ble 1 fr && Nat.ble ((rest.map fun v => v.category).sum + (nativeFrameWords "java/lang/System" "arraycopy" 5 + 11)) lo) = true) (d : decode cc pc = .ok (.invokestatic index, 3))
    (k : ∀ w1, Sm G a (pc + 3) lv rest w1 (kX w1)) : Sm G a pc lv (.int n :: .int dp :: .ref (hB G + c1) :: .int sp :: .ref (hB G + c0) :: rest) w (if cpB sp dp n n0 n1 = true then lT (uCL w c0 c1 (ix sp) (ix dp) (ix n)) kX else none) := by
  refine sm_chk (fun hin => ?_)
  simp only [cpB, Bool.and_eq_true, decide_eq_true_eq] at hin
  obtain ⟨⟨⟨⟨g1, g2⟩, g3⟩, g4⟩, g5⟩ := hin
  obtain ⟨⟨l, D, cA, ad, base⟩, p, e, R, s, m, args, below, meth, c, Q, nL, kc, ks⟩ := G
  obtain ⟨hx, hb, hml, hown, hts, hE, hV, hlk, hfr, hlo, hkc, hks, hnV⟩ := C
  rw [Bool.and_eq_true] at hR
  intro hX H locs ls hP hS hl
  have ha0 := hws_at (cA := cA) (base := base) (w := w) (hkd_lt hk0 (by decide))
  have ha1 := hws_at (cA := cA) (base := base) (w := w) (hkd_lt hk1 (by decide))
  rw [hent_arrL hk0] at ha0
  rw [hent_arrL hk1] at ha1
  refine va_copyl (A := fun q => base ≤ q) (ty := .long) hx hb (hml.trans hl.1.symm) hown (hts _ hw) (hts _ h0) (hts _ h1) (hts _ h2) hE.1 hP hws_D hS c0 c1 1 1 ha0 ha1 rfl rfl rfl g1 g2 g3 g4 g5 (fun _ _ => rfl) (Nat.le_trans (Nat.le_of_ble_eq_true hR.1) hfr) (Nat.le_trans (Nat.le_of_ble_eq_true hR.2) hlo) d (fun H1 locs1 hP1 hD1 hS1 => ?_)
  rw [hws_set (w' := uCL w c0 c1 (ix sp) (ix dp) (ix n))] at hP1
  · exact k _ hX H1 locs1 ls hP1 hS1 hl
  · rw [hent_arrL hk1]
    congr 5
    funext j
    simp [va_cpy, gL, uCL, ix]
  · intro j hj
    refine hent_congr (fun f => ?_) (fun f => ?_) (fun f => ?_)
    all_goals simp [gI, gL, gR, uCL, hj]
end SMC
