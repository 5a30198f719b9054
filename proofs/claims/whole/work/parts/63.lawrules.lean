/-! THE LAW: the rules of its walk -/
abbrev LV (G : Gx) (b i : Nat) : List (Nat × Value) := [(3, .int (nI i)), (2, .ref (hB G + 79)), (1, .ref (hB G + 0)), (0, .ref b)]
def Lx : Gx → Nat → Nat → (Nat → Int32) → Prop := fun ((_, _, _, _, base), _, _, R, s, _, args, below, meth, _, Q, _, kc, ks) b L xs =>
  va_X b L xs s s.heap ∧ b < s.heap.size ∧ base = s.heap.size ∧ R = room_1 ∧ args = #[.ref b] ∧ meth.sig.returnType = ret ∧ kc = 600000 ∧ ks = 7302250 ∧ Q = lw_Z below #[.ref b] s
theorem pu_some {α : Type} {f : HW → Option α} {w w1 : HW} {r : α} (h : pu f w = some (r, w1)) : f w = some r ∧ w1 = w := by
  unfold pu at h
  cases hf : f w with
  | none => rw [hf] at h; cases h
  | some z => rw [hf] at h; cases h; exact ⟨rfl, rfl⟩
theorem lq_0 {x : Int64} : lg_cmp x x = 0 := by
  unfold lg_cmp
  simp
section SLW
variable {G : Gx} {cc : ByteArray} {own : String} {nV fr lo : Nat} {pc : Nat} {lv : List (Nat × Value)} {st rest : List Value} {w : HW} {n n0 cl sl : Nat} {b L : Nat} {xs : Nat → Int32}
variable {y : MethodName} {cy : ByteArray} {ny fr' lo' n' index : Nat} {As : List Value}
theorem sb_astore_n (C : Cx G cc own nV fr lo) {j : Fin 4} {i : Nat} {x : Nat} {lv1 : List (Nat × Value)} (d : decode cc pc = .ok (.astore_n j, 1)) (hi : (j : Nat) = i) (hn : decide (i < nV) = true) (hf : (i, Value.ref x) :: lv.filter (fun q => !(q.1 == i) && !(q.1 + 1 == i && q.2.category == 2)) = lv1) (k : Sb G (pc + 1) lv1 st w n cl sl) : Sb G pc lv (.ref x :: st) w n cl sl := by
  obtain ⟨⟨l, D, cA, ad, base⟩, p, e, R, s, m, args, below, meth, c, Q, nL, kc, ks⟩ := G
  obtain ⟨hx, hb, hml, hown, hts, hE, hV, hlk, hfr, hlo, hkc, hks, hnV⟩ := C
  subst hnV
  exact fun hF H locs ls hP hS hl => lv_astore_n hx hb d hi hl (of_decide_eq_true hn) hf (fun ls1 hl1 => k hF H locs ls1 hP hS hl1)
theorem sb_callI (C : Cx G cc own nV fr lo) (I : Ci G n0) {mc ms : Nat} (hm : Gk G = (mc, ms)) {mc' ms' a n' : Nat} {w' : HW} (hn : n = n0 + cl) (hw : Cond.methodLink own index y ∈ hWS) (hy : y.name = "<init>") (h1 : Cond.instanceMethod y ∈ hWS) (h2 : Cond.initialized y.cls ∈ hWS) (h3 : Cond.code y cy ny none ∈ hWS) (h4 : y.cls ≠ "java/lang/invoke/MethodHandle" ∧ y.cls ≠ "java/lang/invoke/VarHandle" ∧ (parseMethodDescriptor y.desc).map (fun d => d.parameters.length) = some 0)
    (hR : (Nat.ble (fr' + 1) fr && Nat.ble (8 + (ny + 11) + lo') lo) = true) (hr : (Nat.ble (cl + mc') mc && Nat.ble (sl + ms') ms) = true) (hrest : Nat.ble ((st.map fun v => v.category).sum) 8 = true) (d : decode cc pc = .ok (.invokespecial index, 3))
    (hM : Fh w n → Mb G.1 y cy ny fr' lo' mc' ms' [.ref (hB G + a)] w n w' n') (hF' : Fh w n → Fh w' n') (k : Sb G (pc + 3) lv st w' n' (cl + mc') (sl + ms')) : Sb G pc lv (.ref (hB G + a) :: st) w n cl sl := by
  obtain ⟨⟨l, D, cA, ad, base⟩, p, e, R, s, m, args, below, meth, c, Q, nL, kc, ks⟩ := G
  obtain ⟨hx, hb, hml, hown, hts, hE, hV, hlk, hfr, hlo, hkc, hks, hnV⟩ := C
  obtain ⟨hs0, hAO⟩ := I
  have hkm : kc = mc ∧ ks = ms := by cases hm; exact ⟨rfl, rfl⟩
  obtain ⟨rfl, rfl⟩ := hkm
  rw [Bool.and_eq_true] at hr hR
  have hr1 := Nat.le_of_ble_eq_true hr.1
  have hr2 := Nat.le_of_ble_eq_true hr.2
  have hR1 := Nat.le_of_ble_eq_true hR.1
  have hR2 := Nat.le_of_ble_eq_true hR.2
  intro hF H locs ls hP hS hl
  refine W_bnd (fun hz => ?_)
  have hz2 := kws_size hP (Nat.le_trans (by omega) hS.1)
  have hsz : H.size = base + n := by omega
  exact kcall (D := D) (cA := cA) (base := base) (w' := w') (n' := n') (rest := st) (va_runI (As := []) ⟨hx, hb, hml, hown, hts⟩ (hM hF) ⟨callB_of 0 hts (hWS_goodc h3) rfl rfl rfl (hts _ h2) (hts _ hw) h4 ⟨Nat.le_trans hR1 hfr, Nat.le_trans hR2 hlo⟩, hy, hts _ h1⟩ ⟨Pb_blind, fun U hU hW => ⟨rfl, ⟨by rw [hU]; exact hsz, hAO.moved hW.alike⟩, by rw [hU]; exact hP, hEnv.warm hW hE, by rw [hU]; exact (hV.kept (fun x h1 h2 => hS.2.1 x h1 h2)).moved hW.alike⟩⟩ rfl rfl hl.1 rfl (lv_room (Nat.le_of_ble_eq_true hrest)) d ⟨Nat.le_trans hr1 hkc, Nat.le_trans hr2 hks⟩) hS (fun H1 locs1 hP1 hS1 => k (hF' hF) H1 locs1 ls hP1 hS1 hl)
/-- what is built is the world at rest: from here on as in every other walk -/
theorem sb_sm {mc ms : Nat} (hm : Gk G = (mc, ms)) (hr : (Nat.ble cl mc && Nat.ble sl ms) = true) (k : Sm G () pc lv st wF (some ())) : Sb G pc lv st wF 102 cl sl := by
  obtain ⟨⟨l, D, cA, ad, base⟩, p, e, R, s, m, args, below, meth, c, Q, nL, kc, ks⟩ := G
  have hkm : kc = mc ∧ ks = ms := by cases hm; exact ⟨rfl, rfl⟩
  obtain ⟨rfl, rfl⟩ := hkm
  rw [Bool.and_eq_true] at hr
  intro hF H locs ls hP hS hl
  rw [kws_F] at hP
  exact W.widen (k := kc) (n := ks) (Nat.le_of_ble_eq_true hr.1) (Nat.le_of_ble_eq_true hr.2) (k rfl H locs ls hP hS hl)
theorem sl_sld (C : Cx G cc own nV fr lo) (X : Lx G b L xs) {i : Int32} (hin : vp_in i L) (d : decode cc pc = .ok (.iaload, 1)) (k : Sm G () (pc + 1) lv (.int (xs i.toNatClampNeg) :: st) w (some ())) : Sm G () pc lv (.int i :: .ref b :: st) w (some ()) := by
  obtain ⟨⟨l, D, cA, ad, base⟩, p, e, R, s, m, args, below, meth, c, Q, nL, kc, ks⟩ := G
  obtain ⟨hx, hb, hml, hown, hts, hE, hV, hlk, hfr, hlo, hkc, hks, hnV⟩ := C
  obtain ⟨X1, X2, X3, -⟩ := X
  exact fun hX H locs ls hP hS hl => va_sld hx hb X1 X2 (fun q => by have q : base ≤ b := q; omega) hS hin d (k hX H locs ls hP hS hl)
theorem sl_slen (C : Cx G cc own nV fr lo) (X : Lx G b L xs) (d : decode cc pc = .ok (.arraylength, 1)) (k : Sm G () (pc + 1) lv (.int (nI L) :: st) w (some ())) : Sm G () pc lv (.ref b :: st) w (some ()) := by
  obtain ⟨⟨l, D, cA, ad, base⟩, p, e, R, s, m, args, below, meth, c, Q, nL, kc, ks⟩ := G
  obtain ⟨hx, hb, hml, hown, hts, hE, hV, hlk, hfr, hlo, hkc, hks, hnV⟩ := C
  obtain ⟨X1, X2, X3, -⟩ := X
  exact fun hX H locs ls hP hS hl => va_slen hx hb X1 X2 (fun q => by have q : base ≤ b := q; omega) hS d (k hX H locs ls hP hS hl)
theorem sl_ret (C : Cx G code own nV fr lo) (X : Lx G b L xs) (d : decode code pc = .ok (.ireturn, 1)) : Sm G () pc lv [.int 1] w (some ()) := by
  obtain ⟨⟨l, D, cA, ad, base⟩, p, e, R, s, m, args, below, meth, c, Q, nL, kc, ks⟩ := G
  obtain ⟨hx, hb, hml, hown, hts, hE, hV, hlk, hfr, hlo, hkc, hks, hnV⟩ := C
  obtain ⟨X1, X2, X3, rfl, rfl, X6, rfl, rfl, rfl⟩ := X
  exact fun hX H locs ls hP hS hl => va_forget (fun q hq => by have h : base ≤ q.base := hS.2.2 q hq; omega) (lw_ret hx hb X6 hlk d)
theorem sl_callV (C : Cx G cc own nV fr lo) {ry : Option FieldType} (hc : hCF y cy ny ry n') (hw : Cond.methodLink own index y ∈ hWS) {idx ci : Nat} (hk : hkd idx = (0, ci)) (hcl : (vwCl.getD ci ("", fun _ => ("", "", "", false), 0)).1 = y.cls) (hn : As.length = n')
    (hR : (Nat.ble (fr' + 1) fr && Nat.ble (8 + (ny + 11) + lo') lo) = true) (hst : st = As.reverse ++ .ref (hB G + idx) :: rest) (hrest : Nat.ble ((rest.map fun v => v.category).sum) 8 = true) (d : decode cc pc = .ok (.invokevirtual index, 3)) {v : Option Value} {w' : HW}
    (hM : Mt G.1 y cy ny ry fr' lo' (.ref (hB G + idx) :: As) w v w') (k : Sm G () (pc + 3) lv (v.toList ++ rest) w' (some ())) : Sm G () pc lv st w (some ()) := by
  have h := sm_callV (f := some (v, w')) (ρ := id) (kX := fun _ => some ()) (a := ()) C hc hw hk hcl hn hR hst hrest d (fun r h => by cases h; exact hM) (fun r h => by cases h; exact k)
  exact h
theorem sl_callI (C : Cx G cc own nV fr lo) (hc : hCF y cy ny (some .int) n') (hw : Cond.methodLink own index y ∈ hWS) {idx ci : Nat} (hk : hkd idx = (0, ci)) (hcl : (vwCl.getD ci ("", fun _ => ("", "", "", false), 0)).1 = y.cls) (hn : As.length = n')
    (hR : (Nat.ble (fr' + 1) fr && Nat.ble (8 + (ny + 11) + lo') lo) = true) (hst : st = As.reverse ++ .ref (hB G + idx) :: rest) (hrest : Nat.ble ((rest.map fun v => v.category).sum) 8 = true) (d : decode cc pc = .ok (.invokevirtual index, 3)) {r : Int32} {w' : HW}
    (hM : Mt G.1 y cy ny (some .int) fr' lo' (.ref (hB G + idx) :: As) w (some (.int r)) w') (k : Sm G () (pc + 3) lv (.int r :: rest) w' (some ())) : Sm G () pc lv st w (some ()) :=
  sl_callV C hc hw hk hcl hn hR hst hrest d hM k
theorem sl_callJ (C : Cx G cc own nV fr lo) (hc : hCF y cy ny (some .long) n') (hw : Cond.methodLink own index y ∈ hWS) {idx ci : Nat} (hk : hkd idx = (0, ci)) (hcl : (vwCl.getD ci ("", fun _ => ("", "", "", false), 0)).1 = y.cls) (hn : As.length = n')
    (hR : (Nat.ble (fr' + 1) fr && Nat.ble (8 + (ny + 11) + lo') lo) = true) (hst : st = As.reverse ++ .ref (hB G + idx) :: rest) (hrest : Nat.ble ((rest.map fun v => v.category).sum) 8 = true) (d : decode cc pc = .ok (.invokevirtual index, 3)) {r : Int64} {w' : HW}
    (hM : Mt G.1 y cy ny (some .long) fr' lo' (.ref (hB G + idx) :: As) w (some (.long r)) w') (k : Sm G () (pc + 3) lv (.long r :: rest) w' (some ())) : Sm G () pc lv st w (some ()) :=
  sl_callV C hc hw hk hcl hn hR hst hrest d hM k
theorem sl_icmp_eq (C : Cx G cc own nV fr lo) {x : Int32} {off : Int} {tgt : Nat} (d : decode cc pc = .ok (.if_icmp .eq off, 3)) (ht : (pc : Int) + off = (tgt : Int)) (k : Sm G () tgt lv st w (some ())) : Sm G () pc lv (.int x :: .int x :: st) w (some ()) := by
  have h := sm_icmp_eq (a := ()) (X := none) (Y := some ()) (x := x) (y := x) C d ht (fun h => absurd rfl h) (fun _ => k)
  rwa [if_neg (fun h => h rfl)] at h
theorem sl_ifeq (C : Cx G cc own nV fr lo) {x : Int32} {off : Int} {tgt : Nat} (d : decode cc pc = .ok (.ifCond .eq off, 3)) (ht : (pc : Int) + off = (tgt : Int)) (hx : x = 0) (k : Sm G () tgt lv st w (some ())) : Sm G () pc lv (.int x :: st) w (some ()) := by
  have h := sm_if_eq (a := ()) (X := none) (Y := some ()) (x := x) C d ht (fun h => absurd hx h) (fun _ => k)
  rwa [if_neg (fun h => h hx)] at h
theorem sl_icmp_gt (C : Cx G cc own nV fr lo) {x y : Int32} {off : Int} {tgt : Nat} (d : decode cc pc = .ok (.if_icmp .gt off, 3)) (ht : (pc : Int) + off = (tgt : Int)) (kf : ¬ y < x → Sm G () (pc + 3) lv st w (some ())) (kt : y < x → Sm G () tgt lv st w (some ())) : Sm G () pc lv (.int y :: .int x :: st) w (some ()) := by
  have h := sm_icmp_gt (a := ()) (X := some ()) (Y := some ()) C d ht kf kt
  rwa [ite_self] at h
theorem sl_tab (C : Cx G cc own nV fr lo) {x : Int32} {dflt off : Int} {offs : Array Int} {len k tgt : Nat} (hk : x.toInt = (k : Int)) (h76 : k < 76) (d : decode cc pc = .ok (.tableswitch dflt 0 75 offs, len)) (ho : offs[k]? = some off) (ht : (pc : Int) + off = (tgt : Int)) (kk : Sm G () tgt lv st w (some ())) : Sm G () pc lv (.int x :: st) w (some ()) := by
  refine sm_tabIn C d (by omega) (by omega) ?_ ht kk
  rw [hk]
  simpa using ho
end SLW
