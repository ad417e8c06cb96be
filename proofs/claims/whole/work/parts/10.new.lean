/-! New cells. -/
theorem arrC_int : Cond.arrayClass .int ∈ gTbl := inT_mem (i := 1051) (by decide +kernel)
theorem arrC_byte : Cond.arrayClass .byte ∈ gTbl := inT_mem (i := 1037) (by decide +kernel)
theorem new_addr {D : va_G} {cT : CT} {β : Nat → Nat} {base q : Nat} {h : Hp} {x : va_E} {H1 : Heap} (hβ : ∀ i, i < 4096 → β i = base + i) (h83 : h.1 ≤ 83) (hP1 : va_P D vwCl (wsOf β cT h ++ [(q, x)]) H1) (hD1 : va_D (fun q => base ≤ q) (wsOf β cT h ++ [(q, x)])) (hz : H1.size ≤ base + h.1 + 1) : q = β h.1 := by
  have hl : (wsOf β cT h).length = h.1 := by simp [wsOf]
  have e1 : (wsOf β cT h ++ [(q, x)])[h.1]? = some (q, x) := by
    rw [List.getElem?_append_right (by omega), hl]
    simp
  have hlt : q < H1.size := (hP1 h.1 (q, x) e1).lt
  have hge : base ≤ q := hD1.2 h.1 (q, x) e1
  have hne : ∀ i, i < h.1 → q ≠ base + i := by
    intro i hi e
    have e2 : (wsOf β cT h ++ [(q, x)])[i]? = some (β i, cellOf β cT h i) := by
      rw [List.getElem?_append_left (by omega), wsOf_at hi]
    have := hD1.1 i h.1 _ _ e2 e1 (by show β i = q; rw [hβ i (by omega), e])
    omega
  have : ¬ q < base + h.1 := by
    intro hq
    exact hne (q - base) (by omega) (by omega)
  rw [hβ h.1 (by omega)]
  omega
def h0new (h : Hp) : Hp := (h.1 + 1, (fun a => if a = h.1 then (fun _ => 0) else h.2.1 a), (fun a => if a = h.1 then (fun _ => none) else h.2.2 a))
theorem h0_same {β : Nat → Nat} {cT : CT} {h : Hp} : ∀ j, j < h.1 → cellOf β cT (h0new h) j = cellOf β cT h j := fun j hj => cell_same (if_neg (Nat.ne_of_lt hj)) (if_neg (Nat.ne_of_lt hj))
theorem h0_i {h : Hp} : (h0new h).2.1 h.1 = fun _ => 0 := if_pos rfl
theorem h0_r {h : Hp} : (h0new h).2.2 h.1 = fun _ => none := if_pos rfl
set_option maxHeartbeats 1000000 in
theorem zs_new (ix : Nat) {p : Program} {l : Launch} {e : Env} {R : Room} {s : State} {m : MethodId} {args : Array Value} {below : List Frame} {meth : Method} {c : Code} {D : va_G} {cT : CT} {β : Nat → Nat} {base : Nat} {me : ME} {Ts : List Cond} {n0 : Nat} {scr : Option (Nat × (Nat → Int32))} (C : Ctx p s m args meth c D cT base me Ts n0) (hsc : ScrOK scr β s base) (hβ : ∀ i, i < 4096 → β i = base + i) {pc len : Nat} {lv lv' : LV} {st st' : List Value} {h h2 : Hp} {pc' : Nat} (hs : zStep scr me.1 me.2.2.2.1 pc (isIni me) (.new ix) len lv st h = some (pc', lv', st', h2)) (hd : decode me.2.2.1 pc = .ok (.new ix, len)) (hlen : lenOK (.new ix) len = true) (hroom : rOKb me (pc, .new ix, len) = true) (hR : (me.2.2.2.2.2.2.1 ≤ R.frames ∧ me.2.2.2.2.2.2.2 ≤ R.locals) ∧ h2.1 - n0 ≤ R.cells ∧ szS h2.1 - szS n0 ≤ R.slots) (hn0 : n0 ≤ h.1) (h83 : h.1 ≤ 83) {H : Heap} {locs : List Loc} {ls : Array Slot} {Q : State → Prop} (hl : lv_has ls me.2.2.2.1 (cvL β lv)) (hP : va_P D vwCl (wsOf β cT h) H) (hS : va_S (fun q => base ≤ q) s.heap H locs)
    (K : ∀ (H' : Heap) (locs' : List Loc) (ls' : Array Slot), lv_has ls' me.2.2.2.1 (cvL β lv') → va_P D vwCl (wsOf β cT h2) H' → va_S (fun q => base ≤ q) s.heap H' locs' → W p l e R s m args below meth c H' locs' (h2.1 - n0) (szS h2.1 - szS n0) Q (F0 m pc' ls' (st'.map (cv β)))) :
    W p l e R s m args below meth c H locs (h.1 - n0) (szS h.1 - szS n0) Q (F0 m pc ls (st.map (cv β))) := by
  obtain ⟨hx, hb, hml, hown, hts, hG, hK, hsz, hmk, hini⟩ := C
  have hlen1 : len = 3 := Nat.eq_of_beq_eq_true hlen
  subst hlen1
  replace hs : ((match (generalizing := false) lkp (poolOf me.1) ix with
    | some (11, ci, _, _) => (match (generalizing := false) shp[h.1]? with
      | some (.inl c) => bif Nat.beq c ci then some (pc + 3, lv, .ref h.1 :: st, (h.1 + 1, (fun a => if a = h.1 then (fun _ => 0) else h.2.1 a), (fun a => if a = h.1 then (fun _ => none) else h.2.2 a))) else none
      | _ => none)
    | _ => none)) = some (pc', lv', st', h2) := hs
  split at hs
  next ci b0 v0 hp =>
    split at hs
    next c1 hc1 =>
      cases hb1 : Nat.beq c1 ci with
      | false => rw [hb1] at hs; cases hs
      | true =>
        rw [hb1] at hs
        cases hs
        have hcc : c1 = ci := Nat.eq_of_beq_eq_true hb1
        subst hcc
        obtain ⟨Cn, T, N, hc, w1, w2, w3⟩ := pool_N hp
        obtain ⟨ty, hin, hN, hCn, hty, hnm, hf⟩ := cls_ok hc
        have hs1 : szS (h.1 + 1) = szS h.1 + N := by rw [szS_succ hc1, hN]; rfl
        have hs2 := szS_mono hn0
        obtain ⟨-, hR1, hR2⟩ := hR
        replace hR1 : h.1 + 1 - n0 ≤ R.cells := hR1
        replace hR2 : szS (h.1 + 1) - szS n0 ≤ R.slots := hR2
        refine va_new (ci := c1) (fs := fldsOf β (h0new h) h.1 c1) (C := Cn) (T := T) (N := N) hx hb hts (fun w hw => hG w (hin w hw)) ty hty hown (hts _ (hG _ w1)) (hts _ (hG _ w2)) (hts _ (hG _ w3)) hK.1 hP (wsOf_D (fun i hi => hβ i (by omega))) hS (fun q hq => by show base ≤ q; omega) hc (fun j hj => ?_) (by omega) (by omega) hd (fun q H1 hP1 hD1 hS1 => ?_)
        · have hj2 : j < nF c1 := by omega
          obtain ⟨f1, f2, f3, f4⟩ := hf j hj
          unfold vp_V
          rw [List.getD_eq_getElem?_getD, flds_at hj2, h0_i, h0_r]
          cases hr : isR c1 j with
          | true => rcases f4 hr with q | q | ⟨c1, q | q⟩ <;> rw [q] <;> rfl
          | false => rw [f3 hr]; rfl
        · refine W_size (fun hz => ?_)
          have hq := new_addr hβ h83 hP1 hD1 (by omega)
          subst hq
          rw [← cell_obj (cT := cT) hc1, wsOf_push (h' := h0new h) rfl h0_same] at hP1
          have k1 := K H1 locs ls hl hP1 hS1
          rw [show h.1 - n0 + 1 = h.1 + 1 - n0 by omega, show szS h.1 - szS n0 + N = szS (h.1 + 1) - szS n0 by omega]
          exact k1
    next => cases hs
  next => cases hs
set_option maxHeartbeats 1000000 in
theorem zs_newarray (ty : ArrayType) {p : Program} {l : Launch} {e : Env} {R : Room} {s : State} {m : MethodId} {args : Array Value} {below : List Frame} {meth : Method} {c : Code} {D : va_G} {cT : CT} {β : Nat → Nat} {base : Nat} {me : ME} {Ts : List Cond} {n0 : Nat} {scr : Option (Nat × (Nat → Int32))} (C : Ctx p s m args meth c D cT base me Ts n0) (hsc : ScrOK scr β s base) (hβ : ∀ i, i < 4096 → β i = base + i) {pc len : Nat} {lv lv' : LV} {st st' : List Value} {h h2 : Hp} {pc' : Nat} (hs : zStep scr me.1 me.2.2.2.1 pc (isIni me) (.newarray ty) len lv st h = some (pc', lv', st', h2)) (hd : decode me.2.2.1 pc = .ok (.newarray ty, len)) (hlen : lenOK (.newarray ty) len = true) (hroom : rOKb me (pc, .newarray ty, len) = true) (hR : (me.2.2.2.2.2.2.1 ≤ R.frames ∧ me.2.2.2.2.2.2.2 ≤ R.locals) ∧ h2.1 - n0 ≤ R.cells ∧ szS h2.1 - szS n0 ≤ R.slots) (hn0 : n0 ≤ h.1) (h83 : h.1 ≤ 83) {H : Heap} {locs : List Loc} {ls : Array Slot} {Q : State → Prop} (hl : lv_has ls me.2.2.2.1 (cvL β lv)) (hP : va_P D vwCl (wsOf β cT h) H) (hS : va_S (fun q => base ≤ q) s.heap H locs)
    (K : ∀ (H' : Heap) (locs' : List Loc) (ls' : Array Slot), lv_has ls' me.2.2.2.1 (cvL β lv') → va_P D vwCl (wsOf β cT h2) H' → va_S (fun q => base ≤ q) s.heap H' locs' → W p l e R s m args below meth c H' locs' (h2.1 - n0) (szS h2.1 - szS n0) Q (F0 m pc' ls' (st'.map (cv β)))) :
    W p l e R s m args below meth c H locs (h.1 - n0) (szS h.1 - szS n0) Q (F0 m pc ls (st.map (cv β))) := by
  obtain ⟨hx, hb, hml, hown, hts, hG, hK, hsz, hmk, hini⟩ := C
  have hlen1 : len = 2 := Nat.eq_of_beq_eq_true hlen
  subst hlen1
  replace hs : ((match (generalizing := false) st with
    | .int n :: r => (match (generalizing := false) shp[h.1]? with
      | some (.inr (t, N)) => bif ((Nat.beq t 0 && decide (ty = .int)) || (Nat.beq t 1 && decide (ty = .byte))) && decide (0 ≤ n.toInt) && Nat.beq n.toNatClampNeg N then some (pc + 2, lv, .ref h.1 :: r, (h.1 + 1, (fun a => if a = h.1 then (fun _ => 0) else h.2.1 a), (fun a => if a = h.1 then (fun _ => none) else h.2.2 a))) else none
      | _ => none)
    | _ => none)) = some (pc', lv', st', h2) := hs
  split at hs
  next n r =>
    split at hs
    next t N hc1 =>
      cases hb1 : ((Nat.beq t 0 && decide (ty = .int)) || (Nat.beq t 1 && decide (ty = .byte))) && decide (0 ≤ n.toInt) && Nat.beq n.toNatClampNeg N with
      | false => rw [hb1] at hs; cases hs
      | true =>
        rw [hb1] at hs
        cases hs
        rw [Bool.and_eq_true, Bool.and_eq_true] at hb1
        obtain ⟨⟨q1, q2⟩, q3⟩ := hb1
        replace q2 : 0 ≤ n.toInt := by simpa using q2
        have hN : n.toNatClampNeg = N := Nat.eq_of_beq_eq_true q3
        have hN4 := (arr_of_shp hc1).2
        have hs1 : szS (h.1 + 1) = szS h.1 + N := by rw [szS_succ hc1]; rfl
        have hs2 := szS_mono hn0
        obtain ⟨-, hR1, hR2⟩ := hR
        replace hR1 : h.1 + 1 - n0 ≤ R.cells := hR1
        replace hR2 : szS (h.1 + 1) - szS n0 ≤ R.slots := hR2
        rw [Bool.or_eq_true] at q1
        rcases q1 with q1 | q1
        · rw [Bool.and_eq_true] at q1
          have ht : t = 0 := Nat.eq_of_beq_eq_true q1.1
          have hty : ty = .int := by simpa using q1.2
          subst ht; subst hty
          refine va_newa (atype := .int) (ty := .int) (a0 := (N, .inl (fun _ => 0))) hx hb (hts _ (hG _ arrC_int)) rfl hK.1 hP (wsOf_D (fun i hi => hβ i (by omega))) hS (fun q hq => by show base ≤ q; omega) (fun cA => rfl) (nonneg_of q2) hN (by show N * 4 ≤ 536870912; omega) (by omega) (by omega) hd (fun q cA H1 hK1 hP1 hD1 hS1 => ?_)
          refine W_size (fun hz => ?_)
          have hq := new_addr hβ h83 hP1 hD1 (by omega)
          subst hq
          have e1 : s.vm.findClass ("[" ++ (FieldType.int).toString) = some cA := (hK1.2 3 (cA, .int) rfl).2
          have e2 : s.vm.findClass ("[" ++ (FieldType.int).toString) = some cT.1 := (hK.1.2 0 (cT.1, .int) rfl).2
          have e3 : cA = cT.1 := Option.some.inj (e1.symm.trans e2)
          subst e3
          rw [show (Sum.inl (fun _ => 0) : (Nat → Int32) ⊕ (Nat → Int64) ⊕ (Nat → UInt32) ⊕ (Nat → UInt64) ⊕ (Nat → Option Nat)) = .inl ((h0new h).2.1 h.1) by rw [h0_i], ← cell_a0 (β := β) (cT := cT) (h := h0new h) hc1, wsOf_push (h' := h0new h) rfl h0_same] at hP1
          have k1 := K H1 locs ls hl hP1 hS1
          rw [show h.1 - n0 + 1 = h.1 + 1 - n0 by omega, show szS h.1 - szS n0 + N = szS (h.1 + 1) - szS n0 by omega]
          exact k1
        · rw [Bool.and_eq_true] at q1
          have ht : t = 1 := Nat.eq_of_beq_eq_true q1.1
          have hty : ty = .byte := by simpa using q1.2
          subst ht; subst hty
          refine va_newa (atype := .byte) (ty := .byte) (a0 := (N, .inl (fun _ => 0))) hx hb (hts _ (hG _ arrC_byte)) rfl hK.1 hP (wsOf_D (fun i hi => hβ i (by omega))) hS (fun q hq => by show base ≤ q; omega) (fun cA => rfl) (nonneg_of q2) hN (by show N * 1 ≤ 536870912; omega) (by omega) (by omega) hd (fun q cA H1 hK1 hP1 hD1 hS1 => ?_)
          refine W_size (fun hz => ?_)
          have hq := new_addr hβ h83 hP1 hD1 (by omega)
          subst hq
          have e1 : s.vm.findClass ("[" ++ (FieldType.byte).toString) = some cA := (hK1.2 3 (cA, .byte) rfl).2
          have e2 : s.vm.findClass ("[" ++ (FieldType.byte).toString) = some cT.2.1 := (hK.1.2 1 (cT.2.1, .byte) rfl).2
          have e3 : cA = cT.2.1 := Option.some.inj (e1.symm.trans e2)
          subst e3
          rw [show (Sum.inl (fun _ => 0) : (Nat → Int32) ⊕ (Nat → Int64) ⊕ (Nat → UInt32) ⊕ (Nat → UInt64) ⊕ (Nat → Option Nat)) = .inl ((h0new h).2.1 h.1) by rw [h0_i], ← cell_a1 (β := β) (cT := cT) (h := h0new h) hc1, wsOf_push (h' := h0new h) rfl h0_same] at hP1
          have k1 := K H1 locs ls hl hP1 hS1
          rw [show h.1 - n0 + 1 = h.1 + 1 - n0 by omega, show szS h.1 - szS n0 + N = szS (h.1 + 1) - szS n0 by omega]
          exact k1
    next => cases hs
  next => cases hs
set_option maxHeartbeats 1000000 in
theorem zs_anewarray (ix : Nat) {p : Program} {l : Launch} {e : Env} {R : Room} {s : State} {m : MethodId} {args : Array Value} {below : List Frame} {meth : Method} {c : Code} {D : va_G} {cT : CT} {β : Nat → Nat} {base : Nat} {me : ME} {Ts : List Cond} {n0 : Nat} {scr : Option (Nat × (Nat → Int32))} (C : Ctx p s m args meth c D cT base me Ts n0) (hsc : ScrOK scr β s base) (hβ : ∀ i, i < 4096 → β i = base + i) {pc len : Nat} {lv lv' : LV} {st st' : List Value} {h h2 : Hp} {pc' : Nat} (hs : zStep scr me.1 me.2.2.2.1 pc (isIni me) (.anewarray ix) len lv st h = some (pc', lv', st', h2)) (hd : decode me.2.2.1 pc = .ok (.anewarray ix, len)) (hlen : lenOK (.anewarray ix) len = true) (hroom : rOKb me (pc, .anewarray ix, len) = true) (hR : (me.2.2.2.2.2.2.1 ≤ R.frames ∧ me.2.2.2.2.2.2.2 ≤ R.locals) ∧ h2.1 - n0 ≤ R.cells ∧ szS h2.1 - szS n0 ≤ R.slots) (hn0 : n0 ≤ h.1) (h83 : h.1 ≤ 83) {H : Heap} {locs : List Loc} {ls : Array Slot} {Q : State → Prop} (hl : lv_has ls me.2.2.2.1 (cvL β lv)) (hP : va_P D vwCl (wsOf β cT h) H) (hS : va_S (fun q => base ≤ q) s.heap H locs)
    (K : ∀ (H' : Heap) (locs' : List Loc) (ls' : Array Slot), lv_has ls' me.2.2.2.1 (cvL β lv') → va_P D vwCl (wsOf β cT h2) H' → va_S (fun q => base ≤ q) s.heap H' locs' → W p l e R s m args below meth c H' locs' (h2.1 - n0) (szS h2.1 - szS n0) Q (F0 m pc' ls' (st'.map (cv β)))) :
    W p l e R s m args below meth c H locs (h.1 - n0) (szS h.1 - szS n0) Q (F0 m pc ls (st.map (cv β))) := by
  obtain ⟨hx, hb, hml, hown, hts, hG, hK, hsz, hmk, hini⟩ := C
  have hlen1 : len = 3 := Nat.eq_of_beq_eq_true hlen
  subst hlen1
  replace hs : ((match (generalizing := false) st with
    | .int n :: r => (match (generalizing := false) lkp (poolOf me.1) ix with
      | some (11, 5, _, _) => (match (generalizing := false) shp[h.1]? with
        | some (.inr (t, N)) => bif Nat.beq t 2 && decide (0 ≤ n.toInt) && Nat.beq n.toNatClampNeg N then some (pc + 3, lv, .ref h.1 :: r, (h.1 + 1, (fun a => if a = h.1 then (fun _ => 0) else h.2.1 a), (fun a => if a = h.1 then (fun _ => none) else h.2.2 a))) else none
        | _ => none)
      | _ => none)
    | _ => none)) = some (pc', lv', st', h2) := hs
  split at hs
  next n r =>
    split at hs
    next b0 v0 hp =>
      split at hs
      next t N hc1 =>
        cases hb1 : Nat.beq t 2 && decide (0 ≤ n.toInt) && Nat.beq n.toNatClampNeg N with
        | false => rw [hb1] at hs; cases hs
        | true =>
          rw [hb1] at hs
          cases hs
          rw [Bool.and_eq_true, Bool.and_eq_true] at hb1
          obtain ⟨⟨q1, q2⟩, q3⟩ := hb1
          replace q2 : 0 ≤ n.toInt := by simpa using q2
          have ht : t = 2 := Nat.eq_of_beq_eq_true q1
          subst ht
          have hN : n.toNatClampNeg = N := Nat.eq_of_beq_eq_true q3
          have hN4 := (arr_of_shp hc1).2
          have hs1 : szS (h.1 + 1) = szS h.1 + N := by rw [szS_succ hc1]; rfl
          have hs2 := szS_mono hn0
          obtain ⟨-, hR1, hR2⟩ := hR
          replace hR1 : h.1 + 1 - n0 ≤ R.cells := hR1
          replace hR2 : szS (h.1 + 1) - szS n0 ≤ R.slots := hR2
          obtain ⟨Cn, T, N1, hc, w1, w2, w3⟩ := pool_N hp
          cases hc
          refine va_newq (C := RX5) hx hb hown (hts _ (hG _ w1)) hK.2.2 hK.1 hP (wsOf_D (fun i hi => hβ i (by omega))) hS (fun q hq => by show base ≤ q; omega) (nonneg_of q2) hN (by omega) (by omega) (by omega) hd (fun q cA H1 hK1 hP1 hD1 hS1 => ?_)
          refine W_size (fun hz => ?_)
          have hq := new_addr hβ h83 hP1 hD1 (by omega)
          subst hq
          obtain ⟨kA, comp, -, -, -, e1⟩ := (hK1.2 3 (cA, .object RX5) rfl).2
          obtain ⟨kA2, comp2, -, -, -, e2⟩ := (hK.1.2 2 (cT.2.2, .object RX5) rfl).2
          have e3 : cA = cT.2.2 := Option.some.inj (e1.symm.trans e2)
          subst e3
          rw [show (fun _ => none : Nat → Option Nat) = fun j => ((h0new h).2.2 h.1 j).map β by rw [h0_r]; rfl, ← cell_a2 (β := β) (cT := cT) (h := h0new h) hc1, wsOf_push (h' := h0new h) rfl h0_same] at hP1
          have k1 := K H1 locs ls hl hP1 hS1
          rw [show h.1 - n0 + 1 = h.1 + 1 - n0 by omega, show szS h.1 - szS n0 + N = szS (h.1 + 1) - szS n0 by omega]
          exact k1
      next => cases hs
    next => cases hs
  next => cases hs
set_option maxHeartbeats 4000000 in
/-- a step of zStep is a step of the machine -/
theorem zStep_W {ins : Instr} {p : Program} {l : Launch} {e : Env} {R : Room} {s : State} {m : MethodId} {args : Array Value} {below : List Frame} {meth : Method} {c : Code} {D : va_G} {cT : CT} {β : Nat → Nat} {base : Nat} {me : ME} {Ts : List Cond} {n0 : Nat} {scr : Option (Nat × (Nat → Int32))} (C : Ctx p s m args meth c D cT base me Ts n0) (hsc : ScrOK scr β s base) (hβ : ∀ i, i < 4096 → β i = base + i) {pc len : Nat} {lv lv' : LV} {st st' : List Value} {h h2 : Hp} {pc' : Nat} (hs : zStep scr me.1 me.2.2.2.1 pc (isIni me) (ins) len lv st h = some (pc', lv', st', h2)) (hd : decode me.2.2.1 pc = .ok (ins, len)) (hlen : lenOK (ins) len = true) (hroom : rOKb me (pc, ins, len) = true) (hR : (me.2.2.2.2.2.2.1 ≤ R.frames ∧ me.2.2.2.2.2.2.2 ≤ R.locals) ∧ h2.1 - n0 ≤ R.cells ∧ szS h2.1 - szS n0 ≤ R.slots) (hn0 : n0 ≤ h.1) (h83 : h.1 ≤ 83) {H : Heap} {locs : List Loc} {ls : Array Slot} {Q : State → Prop} (hl : lv_has ls me.2.2.2.1 (cvL β lv)) (hP : va_P D vwCl (wsOf β cT h) H) (hS : va_S (fun q => base ≤ q) s.heap H locs)
    (K : ∀ (H' : Heap) (locs' : List Loc) (ls' : Array Slot), lv_has ls' me.2.2.2.1 (cvL β lv') → va_P D vwCl (wsOf β cT h2) H' → va_S (fun q => base ≤ q) s.heap H' locs' → W p l e R s m args below meth c H' locs' (h2.1 - n0) (szS h2.1 - szS n0) Q (F0 m pc' ls' (st'.map (cv β)))) :
    W p l e R s m args below meth c H locs (h.1 - n0) (szS h.1 - szS n0) Q (F0 m pc ls (st.map (cv β))) := by
  cases ins with
  | iconst i => exact zs_iconst i C hsc hβ hs hd hlen hroom hR hn0 h83 hl hP hS K
  | bipush i => exact zs_bipush i C hsc hβ hs hd hlen hroom hR hn0 h83 hl hP hS K
  | sipush i => exact zs_sipush i C hsc hβ hs hd hlen hroom hR hn0 h83 hl hP hS K
  | lconst i => exact zs_lconst i C hsc hβ hs hd hlen hroom hR hn0 h83 hl hP hS K
  | ldc ix => exact zs_ldc ix C hsc hβ hs hd hlen hroom hR hn0 h83 hl hP hS K
  | ldc_w ix => exact zs_ldc_w ix C hsc hβ hs hd hlen hroom hR hn0 h83 hl hP hS K
  | ldc2_w ix => exact zs_ldc2_w ix C hsc hβ hs hd hlen hroom hR hn0 h83 hl hP hS K
  | iload_n i => exact zs_iload_n i C hsc hβ hs hd hlen hroom hR hn0 h83 hl hP hS K
  | iload i => exact zs_iload i C hsc hβ hs hd hlen hroom hR hn0 h83 hl hP hS K
  | lload_n i => exact zs_lload_n i C hsc hβ hs hd hlen hroom hR hn0 h83 hl hP hS K
  | lload i => exact zs_lload i C hsc hβ hs hd hlen hroom hR hn0 h83 hl hP hS K
  | aload_n i => exact zs_aload_n i C hsc hβ hs hd hlen hroom hR hn0 h83 hl hP hS K
  | aload i => exact zs_aload i C hsc hβ hs hd hlen hroom hR hn0 h83 hl hP hS K
  | istore_n i => exact zs_istore_n i C hsc hβ hs hd hlen hroom hR hn0 h83 hl hP hS K
  | istore i => exact zs_istore i C hsc hβ hs hd hlen hroom hR hn0 h83 hl hP hS K
  | lstore_n i => exact zs_lstore_n i C hsc hβ hs hd hlen hroom hR hn0 h83 hl hP hS K
  | lstore i => exact zs_lstore i C hsc hβ hs hd hlen hroom hR hn0 h83 hl hP hS K
  | astore_n i => exact zs_astore_n i C hsc hβ hs hd hlen hroom hR hn0 h83 hl hP hS K
  | astore i => exact zs_astore i C hsc hβ hs hd hlen hroom hR hn0 h83 hl hP hS K
  | iinc i n => exact zs_iinc i n C hsc hβ hs hd hlen hroom hR hn0 h83 hl hP hS K
  | dup => exact zs_dup  C hsc hβ hs hd hlen hroom hR hn0 h83 hl hP hS K
  | dup2 => exact zs_dup2  C hsc hβ hs hd hlen hroom hR hn0 h83 hl hP hS K
  | pop => exact zs_pop  C hsc hβ hs hd hlen hroom hR hn0 h83 hl hP hS K
  | iadd => exact zs_iadd  C hsc hβ hs hd hlen hroom hR hn0 h83 hl hP hS K
  | isub => exact zs_isub  C hsc hβ hs hd hlen hroom hR hn0 h83 hl hP hS K
  | imul => exact zs_imul  C hsc hβ hs hd hlen hroom hR hn0 h83 hl hP hS K
  | idiv => exact zs_idiv  C hsc hβ hs hd hlen hroom hR hn0 h83 hl hP hS K
  | irem => exact zs_irem  C hsc hβ hs hd hlen hroom hR hn0 h83 hl hP hS K
  | ineg => exact zs_ineg  C hsc hβ hs hd hlen hroom hR hn0 h83 hl hP hS K
  | ishl => exact zs_ishl  C hsc hβ hs hd hlen hroom hR hn0 h83 hl hP hS K
  | ishr => exact zs_ishr  C hsc hβ hs hd hlen hroom hR hn0 h83 hl hP hS K
  | iushr => exact zs_iushr  C hsc hβ hs hd hlen hroom hR hn0 h83 hl hP hS K
  | iand => exact zs_iand  C hsc hβ hs hd hlen hroom hR hn0 h83 hl hP hS K
  | ior => exact zs_ior  C hsc hβ hs hd hlen hroom hR hn0 h83 hl hP hS K
  | ixor => exact zs_ixor  C hsc hβ hs hd hlen hroom hR hn0 h83 hl hP hS K
  | i2l => exact zs_i2l  C hsc hβ hs hd hlen hroom hR hn0 h83 hl hP hS K
  | i2b => exact zs_i2b  C hsc hβ hs hd hlen hroom hR hn0 h83 hl hP hS K
  | l2i => exact zs_l2i  C hsc hβ hs hd hlen hroom hR hn0 h83 hl hP hS K
  | ladd => exact zs_ladd  C hsc hβ hs hd hlen hroom hR hn0 h83 hl hP hS K
  | lsub => exact zs_lsub  C hsc hβ hs hd hlen hroom hR hn0 h83 hl hP hS K
  | lmul => exact zs_lmul  C hsc hβ hs hd hlen hroom hR hn0 h83 hl hP hS K
  | ldiv => exact zs_ldiv  C hsc hβ hs hd hlen hroom hR hn0 h83 hl hP hS K
  | lrem => exact zs_lrem  C hsc hβ hs hd hlen hroom hR hn0 h83 hl hP hS K
  | land => exact zs_land  C hsc hβ hs hd hlen hroom hR hn0 h83 hl hP hS K
  | lor => exact zs_lor  C hsc hβ hs hd hlen hroom hR hn0 h83 hl hP hS K
  | lshl => exact zs_lshl  C hsc hβ hs hd hlen hroom hR hn0 h83 hl hP hS K
  | lshr => exact zs_lshr  C hsc hβ hs hd hlen hroom hR hn0 h83 hl hP hS K
  | lcmp => exact zs_lcmp  C hsc hβ hs hd hlen hroom hR hn0 h83 hl hP hS K
  | goto off => exact zs_goto off C hsc hβ hs hd hlen hroom hR hn0 h83 hl hP hS K
  | if_icmp c0 off => exact zs_if_icmp c0 off C hsc hβ hs hd hlen hroom hR hn0 h83 hl hP hS K
  | ifCond c0 off => exact zs_ifCond c0 off C hsc hβ hs hd hlen hroom hR hn0 h83 hl hP hS K
  | tableswitch d lo hi offs => exact zs_tableswitch d lo hi offs C hsc hβ hs hd hlen hroom hR hn0 h83 hl hP hS K
  | lookupswitch d ps => exact zs_lookupswitch d ps C hsc hβ hs hd hlen hroom hR hn0 h83 hl hP hS K
  | getfield ix => exact zs_getfield ix C hsc hβ hs hd hlen hroom hR hn0 h83 hl hP hS K
  | putfield ix => exact zs_putfield ix C hsc hβ hs hd hlen hroom hR hn0 h83 hl hP hS K
  | iaload => exact zs_iaload  C hsc hβ hs hd hlen hroom hR hn0 h83 hl hP hS K
  | baload => exact zs_baload  C hsc hβ hs hd hlen hroom hR hn0 h83 hl hP hS K
  | aaload => exact zs_aaload  C hsc hβ hs hd hlen hroom hR hn0 h83 hl hP hS K
  | iastore => exact zs_iastore  C hsc hβ hs hd hlen hroom hR hn0 h83 hl hP hS K
  | bastore => exact zs_bastore  C hsc hβ hs hd hlen hroom hR hn0 h83 hl hP hS K
  | aastore => exact zs_aastore  C hsc hβ hs hd hlen hroom hR hn0 h83 hl hP hS K
  | arraylength => exact zs_arraylength  C hsc hβ hs hd hlen hroom hR hn0 h83 hl hP hS K
  | new ix => exact zs_new ix C hsc hβ hs hd hlen hroom hR hn0 h83 hl hP hS K
  | newarray ty => exact zs_newarray ty C hsc hβ hs hd hlen hroom hR hn0 h83 hl hP hS K
  | anewarray ix => exact zs_anewarray ix C hsc hβ hs hd hlen hroom hR hn0 h83 hl hP hS K
  | invokespecial ix => exact zs_invokespecial ix C hsc hβ hs hd hlen hroom hR hn0 h83 hl hP hS K
  | invokestatic ix => exact zs_invokestatic ix C hsc hβ hs hd hlen hroom hR hn0 h83 hl hP hS K
  | _ => exact nomatch (show (none : Option Cfg) = some _ from hs)
