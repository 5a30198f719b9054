/-! BUILDING: class and reference while they are made: the first n cells, every reference in the world -/
def kfld (base : Nat) (w : HW) (c ci f : Nat) : Value := match hfty ci f with
  | 0 => .int (gI w c f)
  | 1 => .long (gL w c f)
  | _ => va_rf (hrf base (gR w c f))
def karc (base : Nat) (w : HW) (c t : Nat) : (Nat → Int32) ⊕ (Nat → Int64) ⊕ (Nat → UInt32) ⊕ (Nat → UInt64) ⊕ (Nat → Option Nat) := match t with
  | 2 => .inr (.inl (gL w c))
  | 5 => .inr (.inr (.inr (.inr (fun i => hrf base (gR w c i)))))
  | 6 => .inr (.inr (.inr (.inr (fun i => hrf base (gR w c i)))))
  | _ => .inl (gI w c)
def kent (cA : Nat → ClassId) (base : Nat) (w : HW) (c : Nat) : va_E := match (hkd c).1 with
  | 0 => .inr ((hkd c).2, (List.range (hnf (hkd c).2)).map (kfld base w c (hkd c).2))
  | t => .inl (cA t, (hkd c).2, karc base w c t)
def kws (cA : Nat → ClassId) (base : Nat) (w : HW) (n : Nat) : va_W := (List.range n).map (fun c => (base + c, kent cA base w c))
section KWS
variable {cA : Nat → ClassId} {base : Nat} {w w' : HW} {n : Nat}
theorem kws_at {c : Nat} (h : c < n) : (kws cA base w n)[c]? = some (base + c, kent cA base w c) := by
  unfold kws
  rw [List.getElem?_map, List.getElem?_range h]
  rfl
theorem kws_key (i : Nat) (q : Nat × va_E) (h : (kws cA base w n)[i]? = some q) : q.1 = base + i ∧ i < n := by
  unfold kws at h
  rw [List.getElem?_map] at h
  cases hr : (List.range n)[i]? with
  | none => rw [hr] at h; cases h
  | some z =>
    rw [hr] at h
    cases h
    obtain ⟨h1, h2⟩ := List.getElem?_eq_some_iff.mp hr
    rw [List.getElem_range] at h2
    subst h2
    exact ⟨rfl, by simpa using h1⟩
theorem kws_D : va_D (fun q : Nat => base ≤ q) (kws cA base w n) := by
  refine ⟨fun i j p q hi hj e => ?_, fun k q h => ?_⟩
  · have h1 := (kws_key i p hi).1
    have h2 := (kws_key j q hj).1
    omega
  · have h1 := (kws_key k q h).1
    show base ≤ q.1
    omega
theorem kws_push : kws cA base w n ++ [(base + n, kent cA base w n)] = kws cA base w (n + 1) := by
  unfold kws
  rw [List.range_succ, List.map_append]
  rfl
theorem kws_set {c : Nat} {e : va_E} (he : kent cA base w' c = e) (hj : ∀ j, j ≠ c → kent cA base w' j = kent cA base w j) : (kws cA base w n).set c (base + c, e) = kws cA base w' n := by
  apply List.ext_getElem?
  intro i
  unfold kws
  by_cases hi : i < n
  · by_cases hc : i = c
    · subst hc
      rw [List.getElem?_set_self (by simpa using hi), List.getElem?_map, List.getElem?_range hi]
      simp [he]
    · rw [List.getElem?_set_ne (Ne.symm hc), List.getElem?_map, List.getElem?_map, List.getElem?_range hi]
      simp [hj i hc]
  · rw [List.getElem?_eq_none (by simpa using Nat.le_of_not_lt hi), List.getElem?_eq_none (by simpa using Nat.le_of_not_lt hi)]
theorem kent_congr {c : Nat} (h1 : ∀ f, gI w' c f = gI w c f) (h2 : ∀ f, gL w' c f = gL w c f) (h3 : ∀ f, gR w' c f = gR w c f) : kent cA base w' c = kent cA base w c := by
  have hf : ∀ ci f, kfld base w' c ci f = kfld base w c ci f := by
    intro ci f
    unfold kfld
    rw [h1, h2, h3]
  have ha : ∀ t, karc base w' c t = karc base w c t := by
    intro t
    have e1 : gI w' c = gI w c := funext h1
    have e2 : gL w' c = gL w c := funext h2
    have e3 : gR w' c = gR w c := funext h3
    unfold karc
    rw [e1, e2, e3]
  unfold kent
  have e : kfld base w' c (hkd c).2 = kfld base w c (hkd c).2 := funext (hf _)
  rw [e]
  split
  · rfl
  · rw [ha]
theorem kent_obj {c ci : Nat} (h : hkd c = (0, ci)) : kent cA base w c = .inr (ci, (List.range (hnf ci)).map (kfld base w c ci)) := by
  unfold kent
  rw [h]
  rfl
theorem kent_arrI {c m : Nat} (t : Nat) (ht : t = 1 ∨ t = 3 ∨ t = 4) (h : hkd c = (t, m)) : kent cA base w c = .inl (cA t, m, .inl (gI w c)) := by
  unfold kent
  rw [h]
  rcases ht with rfl | rfl | rfl <;> rfl
theorem kent_arrL {c m : Nat} (h : hkd c = (2, m)) : kent cA base w c = .inl (cA 2, m, .inr (.inl (gL w c))) := by
  unfold kent
  rw [h]
  rfl
theorem kent_arrR {c m : Nat} (t : Nat) (ht : t = 5 ∨ t = 6) (h : hkd c = (t, m)) : kent cA base w c = .inl (cA t, m, .inr (.inr (.inr (.inr (fun i => hrf base (gR w c i)))))) := by
  unfold kent
  rw [h]
  rcases ht with rfl | rfl <;> rfl
theorem kfs_set {c ci k : Nat} {v : Value} (hv : kfld base w' c ci k = v) (ho : ∀ f, f ≠ k → kfld base w' c ci f = kfld base w c ci f) : ((List.range (hnf ci)).map (kfld base w c ci)).set k v = (List.range (hnf ci)).map (kfld base w' c ci) := by
  apply List.ext_getElem?
  intro i
  by_cases hi : i < hnf ci
  · by_cases hk : i = k
    · subst hk
      rw [List.getElem?_set_self (by simpa using hi), List.getElem?_map, List.getElem?_range hi]
      simp [hv]
    · rw [List.getElem?_set_ne (Ne.symm hk), List.getElem?_map, List.getElem?_map, List.getElem?_range hi]
      simp [ho i hk]
  · rw [List.getElem?_eq_none (by simpa using Nat.le_of_not_lt hi), List.getElem?_eq_none (by simpa using Nat.le_of_not_lt hi)]
/-- the n cells lie in the heap -/
theorem kws_size {D : va_G} {H : Heap} (hP : va_P D vwCl (kws cA base w n) H) (h0 : base ≤ H.size) : base + n ≤ H.size := by
  cases n with
  | zero => exact h0
  | succ k => have := (hP k _ (kws_at (Nat.lt_succ_self k))).lt; show base + (k + 1) ≤ H.size; have : base + k < H.size := this; omega
/-- where the new cell lies -/
theorem kws_new {D : va_G} {H1 : Heap} {q : Nat} {e : va_E} (hP : va_P D vwCl (kws cA base w n ++ [(q, e)]) H1) (hD : va_D (fun q : Nat => base ≤ q) (kws cA base w n ++ [(q, e)])) (hz : H1.size ≤ base + (n + 1)) : q = base + n := by
  have hlen : (kws cA base w n).length = n := by unfold kws; simp
  have hl : (kws cA base w n ++ [(q, e)])[n]? = some (q, e) := by rw [List.getElem?_append_right (by omega), hlen, Nat.sub_self]; rfl
  have h1 : base ≤ q := hD.2 n _ hl
  have h2 : q < H1.size := (hP n _ hl).lt
  apply Nat.le_antisymm (by omega)
  apply Nat.le_of_not_lt
  intro hlt
  have hc : q - base < n := by omega
  have h3 : (kws cA base w n ++ [(q, e)])[q - base]? = some (base + (q - base), kent cA base w (q - base)) := by
    rw [List.getElem?_append_left (by omega)]
    exact kws_at hc
  have := hD.1 (q - base) n _ _ h3 hl (show base + (q - base) = q by omega)
  omega
end KWS
/-- arrays of rows and of camps may be made -/
def AO2 (U : State) : Prop := va_AO "SacredHens$Row" U ∧ va_AO "SacredHens$Camp" U
theorem AO2.moved {u U : State} (hvm : u.vm.Alike U.vm) (h : AO2 u) : AO2 U := ⟨va_AO.moved hvm h.1, va_AO.moved hvm h.2⟩
def Qb (D : va_G) (cA : Nat → ClassId) (base : Nat) (w : HW) (n : Nat) : Array Value → State → Outcome → State → Prop :=
  fun _ st o t => o = .returned none ∧ va_P D vwCl (kws cA base w n) t.heap ∧ va_F (hAb base) st t
def Pb (D : va_G) (cA : Nat → ClassId) (ad : Nat → Nat × Nat) (base : Nat) (av : List Value) (w : HW) (n : Nat) : Array Value → State → Prop :=
  va_Pc av (fun U => (U.heap.size = base + n ∧ AO2 U) ∧ va_P D vwCl (kws cA base w n) U.heap ∧ hEnv D cA ad U ∧ hVS 13 hlen hbyt ad (hAb base) U U.heap)
theorem Pb_blind {D : va_G} {cA : Nat → ClassId} {ad : Nat → Nat × Nat} {base : Nat} {av : List Value} {w : HW} {n : Nat} : FrameBlind (Pb D cA ad base av w n) := by
  intro a U g mk h
  obtain ⟨h0, hz, h1, h2, h3⟩ := h
  exact ⟨h0, ⟨hz.1, hz.2.moved (u := U) (U := U.calling g mk a) (Vm.Alike.refl U.vm)⟩, h1, hEnv.same (u := U) (U := U.calling g mk a) rfl h2, hVS.moved (u := U) (U := U.calling g mk a) (Vm.Alike.refl U.vm) h3⟩
/-- a constructor's contract: mc cells of ms slots come -/
def Mb (b : Bx) (y : MethodName) (cc : ByteArray) (nl fr lo mc ms : Nat) (av : List Value) (w : HW) (n : Nat) (w' : HW) (n' : Nat) : Prop :=
  Met b.1 y (hwy y cc nl none) ({ frames := fr, cells := mc, slots := ms, locals := lo }) (Pb b.2.1 b.2.2.1 b.2.2.2.1 b.2.2.2.2 av w n) (Qb b.2.1 b.2.2.1 b.2.2.2.2 w' n') mc ms (hAb b.2.2.2.2)
/-- cells from n on are as they come -/
def Fh (w : HW) (n : Nat) : Prop := ∀ c f, n ≤ c → gI w c f = 0 ∧ gL w c f = 0 ∧ gR w c f = 1000000
theorem Fh.up {w : HW} {n n' : Nat} (h : Fh w n) (hn : n ≤ n') : Fh w n' := fun c f hc => h c f (by omega)
theorem Fh.uR {w : HW} {n c f v : Nat} (h : Fh w n) (hc : c < n) : Fh (uR w c f v) n := fun a b ha => by
  obtain ⟨h1, h2, h3⟩ := h a b ha
  rw [gI_uR, gL_uR, gR_uR, if_neg (by omega)]
  exact ⟨h1, h2, h3⟩
theorem Fh.uI {w : HW} {n c f : Nat} {v : Int32} (h : Fh w n) (hc : c < n) : Fh (uI w c f v) n := fun a b ha => by
  obtain ⟨h1, h2, h3⟩ := h a b ha
  rw [gI_uI, gL_uI, gR_uI, if_neg (by omega)]
  exact ⟨h1, h2, h3⟩
def Sb : Gx → Nat → List (Nat × Value) → List Value → HW → Nat → Nat → Nat → Prop :=
  fun ((l, D, cA, _, base), p, e, R, s, m, args, below, meth, c, Q, nL, _, _) pc lv st w n cl sl => Fh w n → ∀ (H : Heap) (locs : List Loc) (ls : Array Slot), va_P D vwCl (kws cA base w n) H → va_S (hAb base) s.heap H locs → lv_has ls nL lv → W p l e R s m args below meth c H locs cl sl Q (F0 m pc ls st)
/-- a constructor's frame: it began with n0 cells -/
def Ci : Gx → Nat → Prop := fun ((_, _, _, _, base), _, _, _, s, _, _, _, _, _, _, _, _, _) n0 => s.heap.size = base + n0 ∧ AO2 s
/-- it is a constructor -/
def Ni : Gx → Prop := fun (_, _, _, _, _, _, _, _, meth, _, _, _, _, _) => meth.name = "<init>"
def Rb : Gx → HW → Nat → Prop := fun ((_, D, cA, _, base), _, _, _, s, _, args, below, meth, _, Q, _, kc, ks) w n => meth.sig.returnType = none ∧ Q = MQ below (Qb D cA base w n) args s kc ks (hAb base)
def Gk : Gx → Nat × Nat := fun (_, _, _, _, _, _, _, _, _, _, _, _, kc, ks) => (kc, ks)
theorem Mb.of {b : Bx} {y : MethodName} {cc : ByteArray} {nl fr lo mc ms : Nat} {av : List Value} {w w' : HW} {n n' : Nat} (hy : plainName y.cls = true) (hin : y.name = "<init>") (hlen : (lg_sl av).length ≤ nl) (hF : Fh w n)
    (k : ∀ G : Gx, G.1 = b → Cx G cc y.cls nl fr lo → Ci G n → Ni G → Rb G w' n' → Gk G = (mc, ms) → Sb G 0 (lv_args 0 av) [] w n 0 0) : Mb b y cc nl fr lo mc ms av w n w' n' := by
  obtain ⟨l, D, cA, ad, base⟩ := b
  refine Met.ofW (cc := cc) (maxL := nl) (ret := none) hy rfl ?_
  intro p e s m args below meth c s₁ B hml hv
  obtain ⟨rfl, hz, hP, hE, hV⟩ := hv
  have hl := lv_entry av hlen
  rw [lg_entry_eq]
  exact k ((l, D, cA, ad, base), p, e, (headSpec (hwy y cc nl none) ({ frames := fr, cells := mc, slots := ms, locals := lo })).room, s, m, av.toArray, below, meth, c, MQ below (Qb D cA base w' n') av.toArray s mc ms (hAb base), nl, mc, ms) rfl
    ⟨B.exec, B.bytes, hml, findClass_of_methodNamed B.named, fun w hw => atoms_spec (ws := hwy y cc nl none) B.pre w (List.mem_cons_of_mem _ hw), hE, hV, B.notSynchronized, Nat.le_refl _, Nat.le_refl _, Nat.le_refl _, Nat.le_refl _, rfl⟩
    hz ((name_of_methodNamed B.named B.method).1.trans hin) ⟨B.returns, rfl⟩ rfl hF s.heap [] _ hP va_S.rf hl
section WB
variable {p : Program} {l : Launch} {e : Env} {R : Room} {s : State} {m : MethodId} {args : Array Value} {below : List Frame} {meth : Method} {c : Code} {H : Heap} {locs : List Loc} {cells slots : Nat} {Q : State → Prop}
/-- no more cells than are counted -/
theorem W_bnd {g : JFrame} (k : H.size ≤ s.heap.size + cells → W p l e R s m args below meth c H locs cells slots Q g) : W p l e R s m args below meth c H locs cells slots Q g := by
  intro T hT X
  refine k ?_ T hT X
  have h := X.same.2.2.1
  rw [← hT]
  exact h
theorem kcall {pc : Nat} {ls : Array Slot} {rest st0 : List Value} {aa : Array Value} {D : va_G} {cA : Nat → ClassId} {base mc ms : Nat} {w' : HW} {n' : Nat} (hr : va_Run p l e R s m args below meth c H locs cells slots mc ms (F0 m pc ls st0) rest (Qb D cA base w' n' aa) (hAb base)) (hS : va_S (hAb base) s.heap H locs)
    (kk : ∀ (H1 : Heap) (locs1 : List Loc), va_P D vwCl (kws cA base w' n') H1 → va_S (hAb base) s.heap H1 locs1 → W p l e R s m args below meth c H1 locs1 (cells + mc) (slots + ms) Q (F0 m (pc + 3) ls rest)) : W p l e R s m args below meth c H locs cells slots Q (F0 m pc ls st0) := by
  intro T hT X
  obtain ⟨v0, st₀, t, T', L, h0, X', hL, e1, e2, ⟨hv, hp, hz, hk⟩, st⟩ := hr T hT X
  cases hv
  rw [h0] at hz hk
  obtain ⟨t2, a1, b1⟩ := kk T'.heap (locs ++ L) (by rw [e1]; exact hp)
    ⟨Nat.le_trans hS.1 (by rw [e1]; exact hz), fun q h1 h2 => by rw [e1, hk q (Nat.lt_of_lt_of_le h1 hS.1) h2]; exact hS.2.1 q h1 h2, fun q hq => by
      rcases List.mem_append.mp hq with h | h
      · exact hS.2.2 q h
      · exact hL q h⟩ T' rfl X'
  exact ⟨t2, st t2 a1, b1⟩
end WB
section SB
variable {G : Gx} {cc : ByteArray} {own : String} {nV fr lo : Nat} {pc : Nat} {lv : List (Nat × Value)} {st : List Value} {w : HW} {n n0 cl sl : Nat}
theorem sb_iconst (C : Cx G cc own nV fr lo) {i : Int} {v : Int32} (hv : Int32.ofInt i = v) (d : decode cc pc = .ok (.iconst i, 1)) (k : Sb G (pc + 1) lv (.int v :: st) w n cl sl) : Sb G pc lv st w n cl sl := by
  obtain ⟨⟨l, D, cA, ad, base⟩, p, e, R, s, m, args, below, meth, c, Q, nL, kc, ks⟩ := G
  obtain ⟨hx, hb, hml, hown, hts, hE, hV, hlk, hfr, hlo, hkc, hks, hnV⟩ := C
  subst hnV
  exact fun hF H locs ls hP hS hl => lv_iconst hx hb d hv (k hF H locs ls hP hS hl)
theorem sb_bipush (C : Cx G cc own nV fr lo) {i : Int} {v : Int32} (hv : (Int8.ofInt i).toInt32 = v) (d : decode cc pc = .ok (.bipush i, 2)) (k : Sb G (pc + 2) lv (.int v :: st) w n cl sl) : Sb G pc lv st w n cl sl := by
  obtain ⟨⟨l, D, cA, ad, base⟩, p, e, R, s, m, args, below, meth, c, Q, nL, kc, ks⟩ := G
  obtain ⟨hx, hb, hml, hown, hts, hE, hV, hlk, hfr, hlo, hkc, hks, hnV⟩ := C
  subst hnV
  exact fun hF H locs ls hP hS hl => lv_bipush hx hb d hv (k hF H locs ls hP hS hl)
theorem sb_sipush (C : Cx G cc own nV fr lo) {i : Int} {v : Int32} (hv : (Int16.ofInt i).toInt32 = v) (d : decode cc pc = .ok (.sipush i, 3)) (k : Sb G (pc + 3) lv (.int v :: st) w n cl sl) : Sb G pc lv st w n cl sl := by
  obtain ⟨⟨l, D, cA, ad, base⟩, p, e, R, s, m, args, below, meth, c, Q, nL, kc, ks⟩ := G
  obtain ⟨hx, hb, hml, hown, hts, hE, hV, hlk, hfr, hlo, hkc, hks, hnV⟩ := C
  subst hnV
  exact fun hF H locs ls hP hS hl => lv_sipush hx hb d hv (k hF H locs ls hP hS hl)
theorem sb_ldc (C : Cx G cc own nV fr lo) {v : Int32} {index : Nat} (hw : Cond.constant own index v ∈ hWS) (d : decode cc pc = .ok (.ldc index, 2)) (k : Sb G (pc + 2) lv (.int v :: st) w n cl sl) : Sb G pc lv st w n cl sl := by
  obtain ⟨⟨l, D, cA, ad, base⟩, p, e, R, s, m, args, below, meth, c, Q, nL, kc, ks⟩ := G
  obtain ⟨hx, hb, hml, hown, hts, hE, hV, hlk, hfr, hlo, hkc, hks, hnV⟩ := C
  subst hnV
  exact fun hF H locs ls hP hS hl => lv_ldc hx hb hown (hts _ hw) d (k hF H locs ls hP hS hl)
theorem sb_aload_n (C : Cx G cc own nV fr lo) {j : Fin 4} {i : Nat} {x : Nat} (q : Nat) (hq : lv[q]? = some (i, .ref x)) (d : decode cc pc = .ok (.aload_n j, 1)) (hi : (j : Nat) = i) (k : Sb G (pc + 1) lv (.ref x :: st) w n cl sl) : Sb G pc lv st w n cl sl := by
  obtain ⟨⟨l, D, cA, ad, base⟩, p, e, R, s, m, args, below, meth, c, Q, nL, kc, ks⟩ := G
  obtain ⟨hx, hb, hml, hown, hts, hE, hV, hlk, hfr, hlo, hkc, hks, hnV⟩ := C
  subst hnV
  exact fun hF H locs ls hP hS hl => lv_aload_n hx hb d hi (lv_at hl q hq) (k hF H locs ls hP hS hl)
theorem sb_iload_n (C : Cx G cc own nV fr lo) {j : Fin 4} {i : Nat} {x : Int32} (q : Nat) (hq : lv[q]? = some (i, .int x)) (d : decode cc pc = .ok (.iload_n j, 1)) (hi : (j : Nat) = i) (k : Sb G (pc + 1) lv (.int x :: st) w n cl sl) : Sb G pc lv st w n cl sl := by
  obtain ⟨⟨l, D, cA, ad, base⟩, p, e, R, s, m, args, below, meth, c, Q, nL, kc, ks⟩ := G
  obtain ⟨hx, hb, hml, hown, hts, hE, hV, hlk, hfr, hlo, hkc, hks, hnV⟩ := C
  subst hnV
  exact fun hF H locs ls hP hS hl => lv_iload_n hx hb d hi (lv_at hl q hq) (k hF H locs ls hP hS hl)
theorem sb_istore_n (C : Cx G cc own nV fr lo) {j : Fin 4} {i : Nat} {x : Int32} {lv1 : List (Nat × Value)} (d : decode cc pc = .ok (.istore_n j, 1)) (hi : (j : Nat) = i) (hn : decide (i < nV) = true) (hf : (i, Value.int x) :: lv.filter (fun q => !(q.1 == i) && !(q.1 + 1 == i && q.2.category == 2)) = lv1) (k : Sb G (pc + 1) lv1 st w n cl sl) : Sb G pc lv (.int x :: st) w n cl sl := by
  obtain ⟨⟨l, D, cA, ad, base⟩, p, e, R, s, m, args, below, meth, c, Q, nL, kc, ks⟩ := G
  obtain ⟨hx, hb, hml, hown, hts, hE, hV, hlk, hfr, hlo, hkc, hks, hnV⟩ := C
  subst hnV
  exact fun hF H locs ls hP hS hl => lv_istore_n hx hb d hi hl (of_decide_eq_true hn) hf (fun ls1 hl1 => k hF H locs ls1 hP hS hl1)
theorem sb_iinc (C : Cx G cc own nV fr lo) {i : Nat} {j : Int} {x v : Int32} {lv1 : List (Nat × Value)} (q : Nat) (hq : lv[q]? = some (i, .int x)) (hv : x + Int32.ofInt j = v) (d : decode cc pc = .ok (.iinc i j, 3)) (hn : decide (i < nV) = true) (hf : (i, Value.int v) :: lv.filter (fun q => !(q.1 == i) && !(q.1 + 1 == i && q.2.category == 2)) = lv1) (k : Sb G (pc + 3) lv1 st w n cl sl) : Sb G pc lv st w n cl sl := by
  obtain ⟨⟨l, D, cA, ad, base⟩, p, e, R, s, m, args, below, meth, c, Q, nL, kc, ks⟩ := G
  obtain ⟨hx, hb, hml, hown, hts, hE, hV, hlk, hfr, hlo, hkc, hks, hnV⟩ := C
  subst hnV
  exact fun hF H locs ls hP hS hl => lv_iinc hx hb d hl hq hv (of_decide_eq_true hn) hf (fun ls1 hl1 => k hF H locs ls1 hP hS hl1)
theorem sb_goto (C : Cx G cc own nV fr lo) {off : Int} {tgt : Nat} (d : decode cc pc = .ok (.goto off, 3)) (ht : (pc : Int) + off = (tgt : Int)) (k : Sb G tgt lv st w n cl sl) : Sb G pc lv st w n cl sl := by
  obtain ⟨⟨l, D, cA, ad, base⟩, p, e, R, s, m, args, below, meth, c, Q, nL, kc, ks⟩ := G
  obtain ⟨hx, hb, hml, hown, hts, hE, hV, hlk, hfr, hlo, hkc, hks, hnV⟩ := C
  subst hnV
  exact fun hF H locs ls hP hS hl => lv_goto hx hb d ht (k hF H locs ls hP hS hl)
theorem sb_dup (C : Cx G cc own nV fr lo) {va : Value} (hc : va.category = 1) (d : decode cc pc = .ok (.dup, 1)) (k : Sb G (pc + 1) lv (va :: va :: st) w n cl sl) : Sb G pc lv (va :: st) w n cl sl := by
  obtain ⟨⟨l, D, cA, ad, base⟩, p, e, R, s, m, args, below, meth, c, Q, nL, kc, ks⟩ := G
  obtain ⟨hx, hb, hml, hown, hts, hE, hV, hlk, hfr, hlo, hkc, hks, hnV⟩ := C
  subst hnV
  exact fun hF H locs ls hP hS hl => lv_dup hx hb d hc (k hF H locs ls hP hS hl)
theorem sb_icmp_ge (C : Cx G cc own nV fr lo) {x y : Int32} {off : Int} {tgt : Nat} (d : decode cc pc = .ok (.if_icmp .ge off, 3)) (ht : (pc : Int) + off = (tgt : Int)) (kf : x < y → Sb G (pc + 3) lv st w n cl sl) (kt : ¬ x < y → Sb G tgt lv st w n cl sl) : Sb G pc lv (.int y :: .int x :: st) w n cl sl := by
  obtain ⟨⟨l, D, cA, ad, base⟩, p, e, R, s, m, args, below, meth, c, Q, nL, kc, ks⟩ := G
  obtain ⟨hx, hb, hml, hown, hts, hE, hV, hlk, hfr, hlo, hkc, hks, hnV⟩ := C
  subst hnV
  exact fun hF H locs ls hP hS hl => lv_icmp_ge hx hb d ht (fun h => kt (Int32.not_lt.mpr h) hF H locs ls hP hS hl) (fun h => kf (Int32.not_le.mp h) hF H locs ls hP hS hl)
theorem sb_obj (C : Cx G cc own nV fr lo) {index : Nat} {a : Nat} (h1 : Cond.methodLink own index objectInit ∈ hWS) (h2 : Cond.instanceMethod objectInit ∈ hWS) (h3 : Cond.code objectInit ⟨#[0xb1]⟩ 1 none ∈ hWS) (hf : Nat.ble 1 fr = true) (ho : Nat.ble 12 lo = true) (d : decode cc pc = .ok (.invokespecial index, 3)) (k : Sb G (pc + 3) lv [] w n cl sl) : Sb G pc lv [.ref a] w n cl sl := by
  obtain ⟨⟨l, D, cA, ad, base⟩, p, e, R, s, m, args, below, meth, c, Q, nL, kc, ks⟩ := G
  obtain ⟨hx, hb, hml, hown, hts, hE, hV, hlk, hfr, hlo, hkc, hks, hnV⟩ := C
  subst hnV
  have hf' := Nat.le_of_ble_eq_true hf
  have ho' := Nat.le_of_ble_eq_true ho
  exact fun hF H locs ls hP hS hl => W.objInit hx hb hown (hts _ h1) (hts _ h2) (hts _ h3) rfl (by rw [hml]; exact hl.1) rfl d (Nat.le_trans hf' hfr) (Nat.le_trans (Nat.le_trans (show 2 * (F0 m pc ls [Value.ref a]).monitorRoom + 0 + 12 ≤ 12 from Nat.le_of_ble_eq_true rfl) ho') hlo) (W.eq (g2 := F0 m (pc + 3) ls []) rfl (k hF H locs ls hP hS hl))
end SB
