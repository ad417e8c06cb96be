/-! Each instruction of zStep is a step of the machine (heads written by wip/whole/gen8.py). -/
set_option maxHeartbeats 1000000 in
theorem zs_iconst (i : Int) {p : Program} {l : Launch} {e : Env} {R : Room} {s : State} {m : MethodId} {args : Array Value} {below : List Frame} {meth : Method} {c : Code} {D : va_G} {cT : CT} {β : Nat → Nat} {base : Nat} {me : ME} {Ts : List Cond} {n0 : Nat} {scr : Option (Nat × (Nat → Int32))} (C : Ctx p s m args meth c D cT base me Ts n0) (hsc : ScrOK scr β s base) (hβ : ∀ i, i < 4096 → β i = base + i) {pc len : Nat} {lv lv' : LV} {st st' : List Value} {h h2 : Hp} {pc' : Nat} (hs : zStep scr me.1 me.2.2.2.1 pc (isIni me) (.iconst i) len lv st h = some (pc', lv', st', h2)) (hd : decode me.2.2.1 pc = .ok (.iconst i, len)) (hlen : lenOK (.iconst i) len = true) (hroom : rOKb me (pc, .iconst i, len) = true) (hR : (me.2.2.2.2.2.2.1 ≤ R.frames ∧ me.2.2.2.2.2.2.2 ≤ R.locals) ∧ h2.1 - n0 ≤ R.cells ∧ szS h2.1 - szS n0 ≤ R.slots) (hn0 : n0 ≤ h.1) (h83 : h.1 ≤ 83) {H : Heap} {locs : List Loc} {ls : Array Slot} {Q : State → Prop} (hl : lv_has ls me.2.2.2.1 (cvL β lv)) (hP : va_P D vwCl (wsOf β cT h) H) (hS : va_S (fun q => base ≤ q) s.heap H locs)
    (K : ∀ (H' : Heap) (locs' : List Loc) (ls' : Array Slot), lv_has ls' me.2.2.2.1 (cvL β lv') → va_P D vwCl (wsOf β cT h2) H' → va_S (fun q => base ≤ q) s.heap H' locs' → W p l e R s m args below meth c H' locs' (h2.1 - n0) (szS h2.1 - szS n0) Q (F0 m pc' ls' (st'.map (cv β)))) :
    W p l e R s m args below meth c H locs (h.1 - n0) (szS h.1 - szS n0) Q (F0 m pc ls (st.map (cv β))) := by
  obtain ⟨hx, hb, hml, hown, hts, hG, hK, hsz, hmk, hini⟩ := C
  have hlen1 : len = 1 := Nat.eq_of_beq_eq_true hlen
  subst hlen1
  replace hs : (some (pc + 1, lv, .int (Int32.ofInt i) :: st, h)) = some (pc', lv', st', h2) := hs
  cases hs
  exact lv_iconst hx hb hd rfl (K _ _ _ hl hP hS)
set_option maxHeartbeats 1000000 in
theorem zs_bipush (i : Int) {p : Program} {l : Launch} {e : Env} {R : Room} {s : State} {m : MethodId} {args : Array Value} {below : List Frame} {meth : Method} {c : Code} {D : va_G} {cT : CT} {β : Nat → Nat} {base : Nat} {me : ME} {Ts : List Cond} {n0 : Nat} {scr : Option (Nat × (Nat → Int32))} (C : Ctx p s m args meth c D cT base me Ts n0) (hsc : ScrOK scr β s base) (hβ : ∀ i, i < 4096 → β i = base + i) {pc len : Nat} {lv lv' : LV} {st st' : List Value} {h h2 : Hp} {pc' : Nat} (hs : zStep scr me.1 me.2.2.2.1 pc (isIni me) (.bipush i) len lv st h = some (pc', lv', st', h2)) (hd : decode me.2.2.1 pc = .ok (.bipush i, len)) (hlen : lenOK (.bipush i) len = true) (hroom : rOKb me (pc, .bipush i, len) = true) (hR : (me.2.2.2.2.2.2.1 ≤ R.frames ∧ me.2.2.2.2.2.2.2 ≤ R.locals) ∧ h2.1 - n0 ≤ R.cells ∧ szS h2.1 - szS n0 ≤ R.slots) (hn0 : n0 ≤ h.1) (h83 : h.1 ≤ 83) {H : Heap} {locs : List Loc} {ls : Array Slot} {Q : State → Prop} (hl : lv_has ls me.2.2.2.1 (cvL β lv)) (hP : va_P D vwCl (wsOf β cT h) H) (hS : va_S (fun q => base ≤ q) s.heap H locs)
    (K : ∀ (H' : Heap) (locs' : List Loc) (ls' : Array Slot), lv_has ls' me.2.2.2.1 (cvL β lv') → va_P D vwCl (wsOf β cT h2) H' → va_S (fun q => base ≤ q) s.heap H' locs' → W p l e R s m args below meth c H' locs' (h2.1 - n0) (szS h2.1 - szS n0) Q (F0 m pc' ls' (st'.map (cv β)))) :
    W p l e R s m args below meth c H locs (h.1 - n0) (szS h.1 - szS n0) Q (F0 m pc ls (st.map (cv β))) := by
  obtain ⟨hx, hb, hml, hown, hts, hG, hK, hsz, hmk, hini⟩ := C
  have hlen1 : len = 2 := Nat.eq_of_beq_eq_true hlen
  subst hlen1
  replace hs : (some (pc + 2, lv, .int (Int8.ofInt i).toInt32 :: st, h)) = some (pc', lv', st', h2) := hs
  cases hs
  exact lv_bipush hx hb hd rfl (K _ _ _ hl hP hS)
set_option maxHeartbeats 1000000 in
theorem zs_sipush (i : Int) {p : Program} {l : Launch} {e : Env} {R : Room} {s : State} {m : MethodId} {args : Array Value} {below : List Frame} {meth : Method} {c : Code} {D : va_G} {cT : CT} {β : Nat → Nat} {base : Nat} {me : ME} {Ts : List Cond} {n0 : Nat} {scr : Option (Nat × (Nat → Int32))} (C : Ctx p s m args meth c D cT base me Ts n0) (hsc : ScrOK scr β s base) (hβ : ∀ i, i < 4096 → β i = base + i) {pc len : Nat} {lv lv' : LV} {st st' : List Value} {h h2 : Hp} {pc' : Nat} (hs : zStep scr me.1 me.2.2.2.1 pc (isIni me) (.sipush i) len lv st h = some (pc', lv', st', h2)) (hd : decode me.2.2.1 pc = .ok (.sipush i, len)) (hlen : lenOK (.sipush i) len = true) (hroom : rOKb me (pc, .sipush i, len) = true) (hR : (me.2.2.2.2.2.2.1 ≤ R.frames ∧ me.2.2.2.2.2.2.2 ≤ R.locals) ∧ h2.1 - n0 ≤ R.cells ∧ szS h2.1 - szS n0 ≤ R.slots) (hn0 : n0 ≤ h.1) (h83 : h.1 ≤ 83) {H : Heap} {locs : List Loc} {ls : Array Slot} {Q : State → Prop} (hl : lv_has ls me.2.2.2.1 (cvL β lv)) (hP : va_P D vwCl (wsOf β cT h) H) (hS : va_S (fun q => base ≤ q) s.heap H locs)
    (K : ∀ (H' : Heap) (locs' : List Loc) (ls' : Array Slot), lv_has ls' me.2.2.2.1 (cvL β lv') → va_P D vwCl (wsOf β cT h2) H' → va_S (fun q => base ≤ q) s.heap H' locs' → W p l e R s m args below meth c H' locs' (h2.1 - n0) (szS h2.1 - szS n0) Q (F0 m pc' ls' (st'.map (cv β)))) :
    W p l e R s m args below meth c H locs (h.1 - n0) (szS h.1 - szS n0) Q (F0 m pc ls (st.map (cv β))) := by
  obtain ⟨hx, hb, hml, hown, hts, hG, hK, hsz, hmk, hini⟩ := C
  have hlen1 : len = 3 := Nat.eq_of_beq_eq_true hlen
  subst hlen1
  replace hs : (some (pc + 3, lv, .int (Int16.ofInt i).toInt32 :: st, h)) = some (pc', lv', st', h2) := hs
  cases hs
  exact lv_sipush hx hb hd rfl (K _ _ _ hl hP hS)
set_option maxHeartbeats 1000000 in
theorem zs_lconst (i : Fin 2) {p : Program} {l : Launch} {e : Env} {R : Room} {s : State} {m : MethodId} {args : Array Value} {below : List Frame} {meth : Method} {c : Code} {D : va_G} {cT : CT} {β : Nat → Nat} {base : Nat} {me : ME} {Ts : List Cond} {n0 : Nat} {scr : Option (Nat × (Nat → Int32))} (C : Ctx p s m args meth c D cT base me Ts n0) (hsc : ScrOK scr β s base) (hβ : ∀ i, i < 4096 → β i = base + i) {pc len : Nat} {lv lv' : LV} {st st' : List Value} {h h2 : Hp} {pc' : Nat} (hs : zStep scr me.1 me.2.2.2.1 pc (isIni me) (.lconst i) len lv st h = some (pc', lv', st', h2)) (hd : decode me.2.2.1 pc = .ok (.lconst i, len)) (hlen : lenOK (.lconst i) len = true) (hroom : rOKb me (pc, .lconst i, len) = true) (hR : (me.2.2.2.2.2.2.1 ≤ R.frames ∧ me.2.2.2.2.2.2.2 ≤ R.locals) ∧ h2.1 - n0 ≤ R.cells ∧ szS h2.1 - szS n0 ≤ R.slots) (hn0 : n0 ≤ h.1) (h83 : h.1 ≤ 83) {H : Heap} {locs : List Loc} {ls : Array Slot} {Q : State → Prop} (hl : lv_has ls me.2.2.2.1 (cvL β lv)) (hP : va_P D vwCl (wsOf β cT h) H) (hS : va_S (fun q => base ≤ q) s.heap H locs)
    (K : ∀ (H' : Heap) (locs' : List Loc) (ls' : Array Slot), lv_has ls' me.2.2.2.1 (cvL β lv') → va_P D vwCl (wsOf β cT h2) H' → va_S (fun q => base ≤ q) s.heap H' locs' → W p l e R s m args below meth c H' locs' (h2.1 - n0) (szS h2.1 - szS n0) Q (F0 m pc' ls' (st'.map (cv β)))) :
    W p l e R s m args below meth c H locs (h.1 - n0) (szS h.1 - szS n0) Q (F0 m pc ls (st.map (cv β))) := by
  obtain ⟨hx, hb, hml, hown, hts, hG, hK, hsz, hmk, hini⟩ := C
  have hlen1 : len = 1 := Nat.eq_of_beq_eq_true hlen
  subst hlen1
  replace hs : (some (pc + 1, lv, .long (Int64.ofNat (i : Nat)) :: st, h)) = some (pc', lv', st', h2) := hs
  cases hs
  exact lv_lconst hx hb hd rfl (K _ _ _ hl hP hS)
set_option maxHeartbeats 1000000 in
theorem zs_ldc (ix : Nat) {p : Program} {l : Launch} {e : Env} {R : Room} {s : State} {m : MethodId} {args : Array Value} {below : List Frame} {meth : Method} {c : Code} {D : va_G} {cT : CT} {β : Nat → Nat} {base : Nat} {me : ME} {Ts : List Cond} {n0 : Nat} {scr : Option (Nat × (Nat → Int32))} (C : Ctx p s m args meth c D cT base me Ts n0) (hsc : ScrOK scr β s base) (hβ : ∀ i, i < 4096 → β i = base + i) {pc len : Nat} {lv lv' : LV} {st st' : List Value} {h h2 : Hp} {pc' : Nat} (hs : zStep scr me.1 me.2.2.2.1 pc (isIni me) (.ldc ix) len lv st h = some (pc', lv', st', h2)) (hd : decode me.2.2.1 pc = .ok (.ldc ix, len)) (hlen : lenOK (.ldc ix) len = true) (hroom : rOKb me (pc, .ldc ix, len) = true) (hR : (me.2.2.2.2.2.2.1 ≤ R.frames ∧ me.2.2.2.2.2.2.2 ≤ R.locals) ∧ h2.1 - n0 ≤ R.cells ∧ szS h2.1 - szS n0 ≤ R.slots) (hn0 : n0 ≤ h.1) (h83 : h.1 ≤ 83) {H : Heap} {locs : List Loc} {ls : Array Slot} {Q : State → Prop} (hl : lv_has ls me.2.2.2.1 (cvL β lv)) (hP : va_P D vwCl (wsOf β cT h) H) (hS : va_S (fun q => base ≤ q) s.heap H locs)
    (K : ∀ (H' : Heap) (locs' : List Loc) (ls' : Array Slot), lv_has ls' me.2.2.2.1 (cvL β lv') → va_P D vwCl (wsOf β cT h2) H' → va_S (fun q => base ≤ q) s.heap H' locs' → W p l e R s m args below meth c H' locs' (h2.1 - n0) (szS h2.1 - szS n0) Q (F0 m pc' ls' (st'.map (cv β)))) :
    W p l e R s m args below meth c H locs (h.1 - n0) (szS h.1 - szS n0) Q (F0 m pc ls (st.map (cv β))) := by
  obtain ⟨hx, hb, hml, hown, hts, hG, hK, hsz, hmk, hini⟩ := C
  have hlen1 : len = 2 := Nat.eq_of_beq_eq_true hlen
  subst hlen1
  replace hs : ((match (generalizing := false) lkp (poolOf me.1) ix with
    | some (9, _, _, v) => some (pc + 2, lv, .int (Int32.ofInt v) :: st, h)
    | _ => none)) = some (pc', lv', st', h2) := hs
  split at hs
  next a b v hp => cases hs; exact lv_ldc hx hb hown (hts _ (hG _ (pool_c hp))) hd (K _ _ _ hl hP hS)
  next => cases hs
set_option maxHeartbeats 1000000 in
theorem zs_ldc_w (ix : Nat) {p : Program} {l : Launch} {e : Env} {R : Room} {s : State} {m : MethodId} {args : Array Value} {below : List Frame} {meth : Method} {c : Code} {D : va_G} {cT : CT} {β : Nat → Nat} {base : Nat} {me : ME} {Ts : List Cond} {n0 : Nat} {scr : Option (Nat × (Nat → Int32))} (C : Ctx p s m args meth c D cT base me Ts n0) (hsc : ScrOK scr β s base) (hβ : ∀ i, i < 4096 → β i = base + i) {pc len : Nat} {lv lv' : LV} {st st' : List Value} {h h2 : Hp} {pc' : Nat} (hs : zStep scr me.1 me.2.2.2.1 pc (isIni me) (.ldc_w ix) len lv st h = some (pc', lv', st', h2)) (hd : decode me.2.2.1 pc = .ok (.ldc_w ix, len)) (hlen : lenOK (.ldc_w ix) len = true) (hroom : rOKb me (pc, .ldc_w ix, len) = true) (hR : (me.2.2.2.2.2.2.1 ≤ R.frames ∧ me.2.2.2.2.2.2.2 ≤ R.locals) ∧ h2.1 - n0 ≤ R.cells ∧ szS h2.1 - szS n0 ≤ R.slots) (hn0 : n0 ≤ h.1) (h83 : h.1 ≤ 83) {H : Heap} {locs : List Loc} {ls : Array Slot} {Q : State → Prop} (hl : lv_has ls me.2.2.2.1 (cvL β lv)) (hP : va_P D vwCl (wsOf β cT h) H) (hS : va_S (fun q => base ≤ q) s.heap H locs)
    (K : ∀ (H' : Heap) (locs' : List Loc) (ls' : Array Slot), lv_has ls' me.2.2.2.1 (cvL β lv') → va_P D vwCl (wsOf β cT h2) H' → va_S (fun q => base ≤ q) s.heap H' locs' → W p l e R s m args below meth c H' locs' (h2.1 - n0) (szS h2.1 - szS n0) Q (F0 m pc' ls' (st'.map (cv β)))) :
    W p l e R s m args below meth c H locs (h.1 - n0) (szS h.1 - szS n0) Q (F0 m pc ls (st.map (cv β))) := by
  obtain ⟨hx, hb, hml, hown, hts, hG, hK, hsz, hmk, hini⟩ := C
  have hlen1 : len = 3 := Nat.eq_of_beq_eq_true hlen
  subst hlen1
  replace hs : ((match (generalizing := false) lkp (poolOf me.1) ix with
    | some (9, _, _, v) => some (pc + 3, lv, .int (Int32.ofInt v) :: st, h)
    | _ => none)) = some (pc', lv', st', h2) := hs
  split at hs
  next a b v hp => cases hs; exact lv_ldcw hx hb hown (hts _ (hG _ (pool_c hp))) hd (K _ _ _ hl hP hS)
  next => cases hs
set_option maxHeartbeats 1000000 in
theorem zs_ldc2_w (ix : Nat) {p : Program} {l : Launch} {e : Env} {R : Room} {s : State} {m : MethodId} {args : Array Value} {below : List Frame} {meth : Method} {c : Code} {D : va_G} {cT : CT} {β : Nat → Nat} {base : Nat} {me : ME} {Ts : List Cond} {n0 : Nat} {scr : Option (Nat × (Nat → Int32))} (C : Ctx p s m args meth c D cT base me Ts n0) (hsc : ScrOK scr β s base) (hβ : ∀ i, i < 4096 → β i = base + i) {pc len : Nat} {lv lv' : LV} {st st' : List Value} {h h2 : Hp} {pc' : Nat} (hs : zStep scr me.1 me.2.2.2.1 pc (isIni me) (.ldc2_w ix) len lv st h = some (pc', lv', st', h2)) (hd : decode me.2.2.1 pc = .ok (.ldc2_w ix, len)) (hlen : lenOK (.ldc2_w ix) len = true) (hroom : rOKb me (pc, .ldc2_w ix, len) = true) (hR : (me.2.2.2.2.2.2.1 ≤ R.frames ∧ me.2.2.2.2.2.2.2 ≤ R.locals) ∧ h2.1 - n0 ≤ R.cells ∧ szS h2.1 - szS n0 ≤ R.slots) (hn0 : n0 ≤ h.1) (h83 : h.1 ≤ 83) {H : Heap} {locs : List Loc} {ls : Array Slot} {Q : State → Prop} (hl : lv_has ls me.2.2.2.1 (cvL β lv)) (hP : va_P D vwCl (wsOf β cT h) H) (hS : va_S (fun q => base ≤ q) s.heap H locs)
    (K : ∀ (H' : Heap) (locs' : List Loc) (ls' : Array Slot), lv_has ls' me.2.2.2.1 (cvL β lv') → va_P D vwCl (wsOf β cT h2) H' → va_S (fun q => base ≤ q) s.heap H' locs' → W p l e R s m args below meth c H' locs' (h2.1 - n0) (szS h2.1 - szS n0) Q (F0 m pc' ls' (st'.map (cv β)))) :
    W p l e R s m args below meth c H locs (h.1 - n0) (szS h.1 - szS n0) Q (F0 m pc ls (st.map (cv β))) := by
  obtain ⟨hx, hb, hml, hown, hts, hG, hK, hsz, hmk, hini⟩ := C
  have hlen1 : len = 3 := Nat.eq_of_beq_eq_true hlen
  subst hlen1
  replace hs : ((match (generalizing := false) lkp (poolOf me.1) ix with
    | some (10, _, _, v) => some (pc + 3, lv, .long (Int64.ofInt v) :: st, h)
    | _ => none)) = some (pc', lv', st', h2) := hs
  split at hs
  next a b v hp => cases hs; exact lv_ldc2 hx hb hown (hts _ (hG _ (pool_cL hp))) hd (K _ _ _ hl hP hS)
  next => cases hs
set_option maxHeartbeats 1000000 in
theorem zs_iload (i : Nat) {p : Program} {l : Launch} {e : Env} {R : Room} {s : State} {m : MethodId} {args : Array Value} {below : List Frame} {meth : Method} {c : Code} {D : va_G} {cT : CT} {β : Nat → Nat} {base : Nat} {me : ME} {Ts : List Cond} {n0 : Nat} {scr : Option (Nat × (Nat → Int32))} (C : Ctx p s m args meth c D cT base me Ts n0) (hsc : ScrOK scr β s base) (hβ : ∀ i, i < 4096 → β i = base + i) {pc len : Nat} {lv lv' : LV} {st st' : List Value} {h h2 : Hp} {pc' : Nat} (hs : zStep scr me.1 me.2.2.2.1 pc (isIni me) (.iload i) len lv st h = some (pc', lv', st', h2)) (hd : decode me.2.2.1 pc = .ok (.iload i, len)) (hlen : lenOK (.iload i) len = true) (hroom : rOKb me (pc, .iload i, len) = true) (hR : (me.2.2.2.2.2.2.1 ≤ R.frames ∧ me.2.2.2.2.2.2.2 ≤ R.locals) ∧ h2.1 - n0 ≤ R.cells ∧ szS h2.1 - szS n0 ≤ R.slots) (hn0 : n0 ≤ h.1) (h83 : h.1 ≤ 83) {H : Heap} {locs : List Loc} {ls : Array Slot} {Q : State → Prop} (hl : lv_has ls me.2.2.2.1 (cvL β lv)) (hP : va_P D vwCl (wsOf β cT h) H) (hS : va_S (fun q => base ≤ q) s.heap H locs)
    (K : ∀ (H' : Heap) (locs' : List Loc) (ls' : Array Slot), lv_has ls' me.2.2.2.1 (cvL β lv') → va_P D vwCl (wsOf β cT h2) H' → va_S (fun q => base ≤ q) s.heap H' locs' → W p l e R s m args below meth c H' locs' (h2.1 - n0) (szS h2.1 - szS n0) Q (F0 m pc' ls' (st'.map (cv β)))) :
    W p l e R s m args below meth c H locs (h.1 - n0) (szS h.1 - szS n0) Q (F0 m pc ls (st.map (cv β))) := by
  obtain ⟨hx, hb, hml, hown, hts, hG, hK, hsz, hmk, hini⟩ := C
  have hlen1 : len = 2 := Nat.eq_of_beq_eq_true hlen
  subst hlen1
  replace hs : ((match (generalizing := false) ldI lv i with
    | some x => some (pc + 2, lv, .int x :: st, h)
    | none => none)) = some (pc', lv', st', h2) := hs
  split at hs
  next x hv => cases hs; exact lv_iload hx hb hd (ldI_at hl hv) (K _ _ _ hl hP hS)
  next => cases hs
set_option maxHeartbeats 1000000 in
theorem zs_iload_n (i : Fin 4) {p : Program} {l : Launch} {e : Env} {R : Room} {s : State} {m : MethodId} {args : Array Value} {below : List Frame} {meth : Method} {c : Code} {D : va_G} {cT : CT} {β : Nat → Nat} {base : Nat} {me : ME} {Ts : List Cond} {n0 : Nat} {scr : Option (Nat × (Nat → Int32))} (C : Ctx p s m args meth c D cT base me Ts n0) (hsc : ScrOK scr β s base) (hβ : ∀ i, i < 4096 → β i = base + i) {pc len : Nat} {lv lv' : LV} {st st' : List Value} {h h2 : Hp} {pc' : Nat} (hs : zStep scr me.1 me.2.2.2.1 pc (isIni me) (.iload_n i) len lv st h = some (pc', lv', st', h2)) (hd : decode me.2.2.1 pc = .ok (.iload_n i, len)) (hlen : lenOK (.iload_n i) len = true) (hroom : rOKb me (pc, .iload_n i, len) = true) (hR : (me.2.2.2.2.2.2.1 ≤ R.frames ∧ me.2.2.2.2.2.2.2 ≤ R.locals) ∧ h2.1 - n0 ≤ R.cells ∧ szS h2.1 - szS n0 ≤ R.slots) (hn0 : n0 ≤ h.1) (h83 : h.1 ≤ 83) {H : Heap} {locs : List Loc} {ls : Array Slot} {Q : State → Prop} (hl : lv_has ls me.2.2.2.1 (cvL β lv)) (hP : va_P D vwCl (wsOf β cT h) H) (hS : va_S (fun q => base ≤ q) s.heap H locs)
    (K : ∀ (H' : Heap) (locs' : List Loc) (ls' : Array Slot), lv_has ls' me.2.2.2.1 (cvL β lv') → va_P D vwCl (wsOf β cT h2) H' → va_S (fun q => base ≤ q) s.heap H' locs' → W p l e R s m args below meth c H' locs' (h2.1 - n0) (szS h2.1 - szS n0) Q (F0 m pc' ls' (st'.map (cv β)))) :
    W p l e R s m args below meth c H locs (h.1 - n0) (szS h.1 - szS n0) Q (F0 m pc ls (st.map (cv β))) := by
  obtain ⟨hx, hb, hml, hown, hts, hG, hK, hsz, hmk, hini⟩ := C
  have hlen1 : len = 1 := Nat.eq_of_beq_eq_true hlen
  subst hlen1
  replace hs : ((match (generalizing := false) ldI lv i with
    | some x => some (pc + 1, lv, .int x :: st, h)
    | none => none)) = some (pc', lv', st', h2) := hs
  split at hs
  next x hv => cases hs; exact lv_iload_n hx hb hd rfl (ldI_at hl hv) (K _ _ _ hl hP hS)
  next => cases hs
set_option maxHeartbeats 1000000 in
theorem zs_lload (i : Nat) {p : Program} {l : Launch} {e : Env} {R : Room} {s : State} {m : MethodId} {args : Array Value} {below : List Frame} {meth : Method} {c : Code} {D : va_G} {cT : CT} {β : Nat → Nat} {base : Nat} {me : ME} {Ts : List Cond} {n0 : Nat} {scr : Option (Nat × (Nat → Int32))} (C : Ctx p s m args meth c D cT base me Ts n0) (hsc : ScrOK scr β s base) (hβ : ∀ i, i < 4096 → β i = base + i) {pc len : Nat} {lv lv' : LV} {st st' : List Value} {h h2 : Hp} {pc' : Nat} (hs : zStep scr me.1 me.2.2.2.1 pc (isIni me) (.lload i) len lv st h = some (pc', lv', st', h2)) (hd : decode me.2.2.1 pc = .ok (.lload i, len)) (hlen : lenOK (.lload i) len = true) (hroom : rOKb me (pc, .lload i, len) = true) (hR : (me.2.2.2.2.2.2.1 ≤ R.frames ∧ me.2.2.2.2.2.2.2 ≤ R.locals) ∧ h2.1 - n0 ≤ R.cells ∧ szS h2.1 - szS n0 ≤ R.slots) (hn0 : n0 ≤ h.1) (h83 : h.1 ≤ 83) {H : Heap} {locs : List Loc} {ls : Array Slot} {Q : State → Prop} (hl : lv_has ls me.2.2.2.1 (cvL β lv)) (hP : va_P D vwCl (wsOf β cT h) H) (hS : va_S (fun q => base ≤ q) s.heap H locs)
    (K : ∀ (H' : Heap) (locs' : List Loc) (ls' : Array Slot), lv_has ls' me.2.2.2.1 (cvL β lv') → va_P D vwCl (wsOf β cT h2) H' → va_S (fun q => base ≤ q) s.heap H' locs' → W p l e R s m args below meth c H' locs' (h2.1 - n0) (szS h2.1 - szS n0) Q (F0 m pc' ls' (st'.map (cv β)))) :
    W p l e R s m args below meth c H locs (h.1 - n0) (szS h.1 - szS n0) Q (F0 m pc ls (st.map (cv β))) := by
  obtain ⟨hx, hb, hml, hown, hts, hG, hK, hsz, hmk, hini⟩ := C
  have hlen1 : len = 2 := Nat.eq_of_beq_eq_true hlen
  subst hlen1
  replace hs : ((match (generalizing := false) ldL lv i with
    | some x => some (pc + 2, lv, .long x :: st, h)
    | none => none)) = some (pc', lv', st', h2) := hs
  split at hs
  next x hv => cases hs; exact lv_lload hx hb hd (ldL_at hl hv) (K _ _ _ hl hP hS)
  next => cases hs
set_option maxHeartbeats 1000000 in
theorem zs_lload_n (i : Fin 4) {p : Program} {l : Launch} {e : Env} {R : Room} {s : State} {m : MethodId} {args : Array Value} {below : List Frame} {meth : Method} {c : Code} {D : va_G} {cT : CT} {β : Nat → Nat} {base : Nat} {me : ME} {Ts : List Cond} {n0 : Nat} {scr : Option (Nat × (Nat → Int32))} (C : Ctx p s m args meth c D cT base me Ts n0) (hsc : ScrOK scr β s base) (hβ : ∀ i, i < 4096 → β i = base + i) {pc len : Nat} {lv lv' : LV} {st st' : List Value} {h h2 : Hp} {pc' : Nat} (hs : zStep scr me.1 me.2.2.2.1 pc (isIni me) (.lload_n i) len lv st h = some (pc', lv', st', h2)) (hd : decode me.2.2.1 pc = .ok (.lload_n i, len)) (hlen : lenOK (.lload_n i) len = true) (hroom : rOKb me (pc, .lload_n i, len) = true) (hR : (me.2.2.2.2.2.2.1 ≤ R.frames ∧ me.2.2.2.2.2.2.2 ≤ R.locals) ∧ h2.1 - n0 ≤ R.cells ∧ szS h2.1 - szS n0 ≤ R.slots) (hn0 : n0 ≤ h.1) (h83 : h.1 ≤ 83) {H : Heap} {locs : List Loc} {ls : Array Slot} {Q : State → Prop} (hl : lv_has ls me.2.2.2.1 (cvL β lv)) (hP : va_P D vwCl (wsOf β cT h) H) (hS : va_S (fun q => base ≤ q) s.heap H locs)
    (K : ∀ (H' : Heap) (locs' : List Loc) (ls' : Array Slot), lv_has ls' me.2.2.2.1 (cvL β lv') → va_P D vwCl (wsOf β cT h2) H' → va_S (fun q => base ≤ q) s.heap H' locs' → W p l e R s m args below meth c H' locs' (h2.1 - n0) (szS h2.1 - szS n0) Q (F0 m pc' ls' (st'.map (cv β)))) :
    W p l e R s m args below meth c H locs (h.1 - n0) (szS h.1 - szS n0) Q (F0 m pc ls (st.map (cv β))) := by
  obtain ⟨hx, hb, hml, hown, hts, hG, hK, hsz, hmk, hini⟩ := C
  have hlen1 : len = 1 := Nat.eq_of_beq_eq_true hlen
  subst hlen1
  replace hs : ((match (generalizing := false) ldL lv i with
    | some x => some (pc + 1, lv, .long x :: st, h)
    | none => none)) = some (pc', lv', st', h2) := hs
  split at hs
  next x hv => cases hs; exact lv_lload_n hx hb hd rfl (ldL_at hl hv) (K _ _ _ hl hP hS)
  next => cases hs
set_option maxHeartbeats 1000000 in
theorem zs_aload (i : Nat) {p : Program} {l : Launch} {e : Env} {R : Room} {s : State} {m : MethodId} {args : Array Value} {below : List Frame} {meth : Method} {c : Code} {D : va_G} {cT : CT} {β : Nat → Nat} {base : Nat} {me : ME} {Ts : List Cond} {n0 : Nat} {scr : Option (Nat × (Nat → Int32))} (C : Ctx p s m args meth c D cT base me Ts n0) (hsc : ScrOK scr β s base) (hβ : ∀ i, i < 4096 → β i = base + i) {pc len : Nat} {lv lv' : LV} {st st' : List Value} {h h2 : Hp} {pc' : Nat} (hs : zStep scr me.1 me.2.2.2.1 pc (isIni me) (.aload i) len lv st h = some (pc', lv', st', h2)) (hd : decode me.2.2.1 pc = .ok (.aload i, len)) (hlen : lenOK (.aload i) len = true) (hroom : rOKb me (pc, .aload i, len) = true) (hR : (me.2.2.2.2.2.2.1 ≤ R.frames ∧ me.2.2.2.2.2.2.2 ≤ R.locals) ∧ h2.1 - n0 ≤ R.cells ∧ szS h2.1 - szS n0 ≤ R.slots) (hn0 : n0 ≤ h.1) (h83 : h.1 ≤ 83) {H : Heap} {locs : List Loc} {ls : Array Slot} {Q : State → Prop} (hl : lv_has ls me.2.2.2.1 (cvL β lv)) (hP : va_P D vwCl (wsOf β cT h) H) (hS : va_S (fun q => base ≤ q) s.heap H locs)
    (K : ∀ (H' : Heap) (locs' : List Loc) (ls' : Array Slot), lv_has ls' me.2.2.2.1 (cvL β lv') → va_P D vwCl (wsOf β cT h2) H' → va_S (fun q => base ≤ q) s.heap H' locs' → W p l e R s m args below meth c H' locs' (h2.1 - n0) (szS h2.1 - szS n0) Q (F0 m pc' ls' (st'.map (cv β)))) :
    W p l e R s m args below meth c H locs (h.1 - n0) (szS h.1 - szS n0) Q (F0 m pc ls (st.map (cv β))) := by
  obtain ⟨hx, hb, hml, hown, hts, hG, hK, hsz, hmk, hini⟩ := C
  have hlen1 : len = 2 := Nat.eq_of_beq_eq_true hlen
  subst hlen1
  replace hs : ((match (generalizing := false) ldA lv i with
    | some x => some (pc + 2, lv, .ref x :: st, h)
    | none => none)) = some (pc', lv', st', h2) := hs
  split at hs
  next x hv => cases hs; exact lv_aload hx hb hd (ldA_at hl hv) (K _ _ _ hl hP hS)
  next => cases hs
set_option maxHeartbeats 1000000 in
theorem zs_aload_n (i : Fin 4) {p : Program} {l : Launch} {e : Env} {R : Room} {s : State} {m : MethodId} {args : Array Value} {below : List Frame} {meth : Method} {c : Code} {D : va_G} {cT : CT} {β : Nat → Nat} {base : Nat} {me : ME} {Ts : List Cond} {n0 : Nat} {scr : Option (Nat × (Nat → Int32))} (C : Ctx p s m args meth c D cT base me Ts n0) (hsc : ScrOK scr β s base) (hβ : ∀ i, i < 4096 → β i = base + i) {pc len : Nat} {lv lv' : LV} {st st' : List Value} {h h2 : Hp} {pc' : Nat} (hs : zStep scr me.1 me.2.2.2.1 pc (isIni me) (.aload_n i) len lv st h = some (pc', lv', st', h2)) (hd : decode me.2.2.1 pc = .ok (.aload_n i, len)) (hlen : lenOK (.aload_n i) len = true) (hroom : rOKb me (pc, .aload_n i, len) = true) (hR : (me.2.2.2.2.2.2.1 ≤ R.frames ∧ me.2.2.2.2.2.2.2 ≤ R.locals) ∧ h2.1 - n0 ≤ R.cells ∧ szS h2.1 - szS n0 ≤ R.slots) (hn0 : n0 ≤ h.1) (h83 : h.1 ≤ 83) {H : Heap} {locs : List Loc} {ls : Array Slot} {Q : State → Prop} (hl : lv_has ls me.2.2.2.1 (cvL β lv)) (hP : va_P D vwCl (wsOf β cT h) H) (hS : va_S (fun q => base ≤ q) s.heap H locs)
    (K : ∀ (H' : Heap) (locs' : List Loc) (ls' : Array Slot), lv_has ls' me.2.2.2.1 (cvL β lv') → va_P D vwCl (wsOf β cT h2) H' → va_S (fun q => base ≤ q) s.heap H' locs' → W p l e R s m args below meth c H' locs' (h2.1 - n0) (szS h2.1 - szS n0) Q (F0 m pc' ls' (st'.map (cv β)))) :
    W p l e R s m args below meth c H locs (h.1 - n0) (szS h.1 - szS n0) Q (F0 m pc ls (st.map (cv β))) := by
  obtain ⟨hx, hb, hml, hown, hts, hG, hK, hsz, hmk, hini⟩ := C
  have hlen1 : len = 1 := Nat.eq_of_beq_eq_true hlen
  subst hlen1
  replace hs : ((match (generalizing := false) ldA lv i with
    | some x => some (pc + 1, lv, .ref x :: st, h)
    | none => none)) = some (pc', lv', st', h2) := hs
  split at hs
  next x hv => cases hs; exact lv_aload_n hx hb hd rfl (ldA_at hl hv) (K _ _ _ hl hP hS)
  next => cases hs
set_option maxHeartbeats 1000000 in
theorem zs_istore (i : Nat) {p : Program} {l : Launch} {e : Env} {R : Room} {s : State} {m : MethodId} {args : Array Value} {below : List Frame} {meth : Method} {c : Code} {D : va_G} {cT : CT} {β : Nat → Nat} {base : Nat} {me : ME} {Ts : List Cond} {n0 : Nat} {scr : Option (Nat × (Nat → Int32))} (C : Ctx p s m args meth c D cT base me Ts n0) (hsc : ScrOK scr β s base) (hβ : ∀ i, i < 4096 → β i = base + i) {pc len : Nat} {lv lv' : LV} {st st' : List Value} {h h2 : Hp} {pc' : Nat} (hs : zStep scr me.1 me.2.2.2.1 pc (isIni me) (.istore i) len lv st h = some (pc', lv', st', h2)) (hd : decode me.2.2.1 pc = .ok (.istore i, len)) (hlen : lenOK (.istore i) len = true) (hroom : rOKb me (pc, .istore i, len) = true) (hR : (me.2.2.2.2.2.2.1 ≤ R.frames ∧ me.2.2.2.2.2.2.2 ≤ R.locals) ∧ h2.1 - n0 ≤ R.cells ∧ szS h2.1 - szS n0 ≤ R.slots) (hn0 : n0 ≤ h.1) (h83 : h.1 ≤ 83) {H : Heap} {locs : List Loc} {ls : Array Slot} {Q : State → Prop} (hl : lv_has ls me.2.2.2.1 (cvL β lv)) (hP : va_P D vwCl (wsOf β cT h) H) (hS : va_S (fun q => base ≤ q) s.heap H locs)
    (K : ∀ (H' : Heap) (locs' : List Loc) (ls' : Array Slot), lv_has ls' me.2.2.2.1 (cvL β lv') → va_P D vwCl (wsOf β cT h2) H' → va_S (fun q => base ≤ q) s.heap H' locs' → W p l e R s m args below meth c H' locs' (h2.1 - n0) (szS h2.1 - szS n0) Q (F0 m pc' ls' (st'.map (cv β)))) :
    W p l e R s m args below meth c H locs (h.1 - n0) (szS h.1 - szS n0) Q (F0 m pc ls (st.map (cv β))) := by
  obtain ⟨hx, hb, hml, hown, hts, hG, hK, hsz, hmk, hini⟩ := C
  have hlen1 : len = 2 := Nat.eq_of_beq_eq_true hlen
  subst hlen1
  replace hs : ((match (generalizing := false) st with
    | .int x :: r => bif Nat.blt i me.2.2.2.1 then some (pc + 2, lvPut lv i (.int x), r, h) else none
    | _ => none)) = some (pc', lv', st', h2) := hs
  split at hs
  next x r =>
    cases hb1 : Nat.blt i me.2.2.2.1 with
    | false => rw [hb1] at hs; cases hs
    | true =>
      rw [hb1] at hs
      cases hs
      exact lv_istore hx hb hd hl (by simpa using hb1) (cvL_put β lv i (.int x)) (fun ls' hl' => K _ _ _ hl' hP hS)
  next => cases hs
set_option maxHeartbeats 1000000 in
theorem zs_istore_n (i : Fin 4) {p : Program} {l : Launch} {e : Env} {R : Room} {s : State} {m : MethodId} {args : Array Value} {below : List Frame} {meth : Method} {c : Code} {D : va_G} {cT : CT} {β : Nat → Nat} {base : Nat} {me : ME} {Ts : List Cond} {n0 : Nat} {scr : Option (Nat × (Nat → Int32))} (C : Ctx p s m args meth c D cT base me Ts n0) (hsc : ScrOK scr β s base) (hβ : ∀ i, i < 4096 → β i = base + i) {pc len : Nat} {lv lv' : LV} {st st' : List Value} {h h2 : Hp} {pc' : Nat} (hs : zStep scr me.1 me.2.2.2.1 pc (isIni me) (.istore_n i) len lv st h = some (pc', lv', st', h2)) (hd : decode me.2.2.1 pc = .ok (.istore_n i, len)) (hlen : lenOK (.istore_n i) len = true) (hroom : rOKb me (pc, .istore_n i, len) = true) (hR : (me.2.2.2.2.2.2.1 ≤ R.frames ∧ me.2.2.2.2.2.2.2 ≤ R.locals) ∧ h2.1 - n0 ≤ R.cells ∧ szS h2.1 - szS n0 ≤ R.slots) (hn0 : n0 ≤ h.1) (h83 : h.1 ≤ 83) {H : Heap} {locs : List Loc} {ls : Array Slot} {Q : State → Prop} (hl : lv_has ls me.2.2.2.1 (cvL β lv)) (hP : va_P D vwCl (wsOf β cT h) H) (hS : va_S (fun q => base ≤ q) s.heap H locs)
    (K : ∀ (H' : Heap) (locs' : List Loc) (ls' : Array Slot), lv_has ls' me.2.2.2.1 (cvL β lv') → va_P D vwCl (wsOf β cT h2) H' → va_S (fun q => base ≤ q) s.heap H' locs' → W p l e R s m args below meth c H' locs' (h2.1 - n0) (szS h2.1 - szS n0) Q (F0 m pc' ls' (st'.map (cv β)))) :
    W p l e R s m args below meth c H locs (h.1 - n0) (szS h.1 - szS n0) Q (F0 m pc ls (st.map (cv β))) := by
  obtain ⟨hx, hb, hml, hown, hts, hG, hK, hsz, hmk, hini⟩ := C
  have hlen1 : len = 1 := Nat.eq_of_beq_eq_true hlen
  subst hlen1
  replace hs : ((match (generalizing := false) st with
    | .int x :: r => bif Nat.blt i me.2.2.2.1 then some (pc + 1, lvPut lv i (.int x), r, h) else none
    | _ => none)) = some (pc', lv', st', h2) := hs
  split at hs
  next x r =>
    cases hb1 : Nat.blt (i : Nat) me.2.2.2.1 with
    | false => rw [hb1] at hs; cases hs
    | true =>
      rw [hb1] at hs
      cases hs
      exact lv_istore_n hx hb hd rfl hl (by simpa using hb1) (cvL_put β lv (i : Nat) (.int x)) (fun ls' hl' => K _ _ _ hl' hP hS)
  next => cases hs
set_option maxHeartbeats 1000000 in
theorem zs_lstore (i : Nat) {p : Program} {l : Launch} {e : Env} {R : Room} {s : State} {m : MethodId} {args : Array Value} {below : List Frame} {meth : Method} {c : Code} {D : va_G} {cT : CT} {β : Nat → Nat} {base : Nat} {me : ME} {Ts : List Cond} {n0 : Nat} {scr : Option (Nat × (Nat → Int32))} (C : Ctx p s m args meth c D cT base me Ts n0) (hsc : ScrOK scr β s base) (hβ : ∀ i, i < 4096 → β i = base + i) {pc len : Nat} {lv lv' : LV} {st st' : List Value} {h h2 : Hp} {pc' : Nat} (hs : zStep scr me.1 me.2.2.2.1 pc (isIni me) (.lstore i) len lv st h = some (pc', lv', st', h2)) (hd : decode me.2.2.1 pc = .ok (.lstore i, len)) (hlen : lenOK (.lstore i) len = true) (hroom : rOKb me (pc, .lstore i, len) = true) (hR : (me.2.2.2.2.2.2.1 ≤ R.frames ∧ me.2.2.2.2.2.2.2 ≤ R.locals) ∧ h2.1 - n0 ≤ R.cells ∧ szS h2.1 - szS n0 ≤ R.slots) (hn0 : n0 ≤ h.1) (h83 : h.1 ≤ 83) {H : Heap} {locs : List Loc} {ls : Array Slot} {Q : State → Prop} (hl : lv_has ls me.2.2.2.1 (cvL β lv)) (hP : va_P D vwCl (wsOf β cT h) H) (hS : va_S (fun q => base ≤ q) s.heap H locs)
    (K : ∀ (H' : Heap) (locs' : List Loc) (ls' : Array Slot), lv_has ls' me.2.2.2.1 (cvL β lv') → va_P D vwCl (wsOf β cT h2) H' → va_S (fun q => base ≤ q) s.heap H' locs' → W p l e R s m args below meth c H' locs' (h2.1 - n0) (szS h2.1 - szS n0) Q (F0 m pc' ls' (st'.map (cv β)))) :
    W p l e R s m args below meth c H locs (h.1 - n0) (szS h.1 - szS n0) Q (F0 m pc ls (st.map (cv β))) := by
  obtain ⟨hx, hb, hml, hown, hts, hG, hK, hsz, hmk, hini⟩ := C
  have hlen1 : len = 2 := Nat.eq_of_beq_eq_true hlen
  subst hlen1
  replace hs : ((match (generalizing := false) st with
    | .long x :: r => bif Nat.blt (i + 1) me.2.2.2.1 then some (pc + 2, lvPut2 lv i (.long x), r, h) else none
    | _ => none)) = some (pc', lv', st', h2) := hs
  split at hs
  next x r =>
    cases hb1 : Nat.blt (i + 1) me.2.2.2.1 with
    | false => rw [hb1] at hs; cases hs
    | true =>
      rw [hb1] at hs
      cases hs
      exact lv_lstore hx hb hd hl (by simpa using hb1) (cvL_put2 β lv i (.long x)) (fun ls' hl' => K _ _ _ hl' hP hS)
  next => cases hs
set_option maxHeartbeats 1000000 in
theorem zs_lstore_n (i : Fin 4) {p : Program} {l : Launch} {e : Env} {R : Room} {s : State} {m : MethodId} {args : Array Value} {below : List Frame} {meth : Method} {c : Code} {D : va_G} {cT : CT} {β : Nat → Nat} {base : Nat} {me : ME} {Ts : List Cond} {n0 : Nat} {scr : Option (Nat × (Nat → Int32))} (C : Ctx p s m args meth c D cT base me Ts n0) (hsc : ScrOK scr β s base) (hβ : ∀ i, i < 4096 → β i = base + i) {pc len : Nat} {lv lv' : LV} {st st' : List Value} {h h2 : Hp} {pc' : Nat} (hs : zStep scr me.1 me.2.2.2.1 pc (isIni me) (.lstore_n i) len lv st h = some (pc', lv', st', h2)) (hd : decode me.2.2.1 pc = .ok (.lstore_n i, len)) (hlen : lenOK (.lstore_n i) len = true) (hroom : rOKb me (pc, .lstore_n i, len) = true) (hR : (me.2.2.2.2.2.2.1 ≤ R.frames ∧ me.2.2.2.2.2.2.2 ≤ R.locals) ∧ h2.1 - n0 ≤ R.cells ∧ szS h2.1 - szS n0 ≤ R.slots) (hn0 : n0 ≤ h.1) (h83 : h.1 ≤ 83) {H : Heap} {locs : List Loc} {ls : Array Slot} {Q : State → Prop} (hl : lv_has ls me.2.2.2.1 (cvL β lv)) (hP : va_P D vwCl (wsOf β cT h) H) (hS : va_S (fun q => base ≤ q) s.heap H locs)
    (K : ∀ (H' : Heap) (locs' : List Loc) (ls' : Array Slot), lv_has ls' me.2.2.2.1 (cvL β lv') → va_P D vwCl (wsOf β cT h2) H' → va_S (fun q => base ≤ q) s.heap H' locs' → W p l e R s m args below meth c H' locs' (h2.1 - n0) (szS h2.1 - szS n0) Q (F0 m pc' ls' (st'.map (cv β)))) :
    W p l e R s m args below meth c H locs (h.1 - n0) (szS h.1 - szS n0) Q (F0 m pc ls (st.map (cv β))) := by
  obtain ⟨hx, hb, hml, hown, hts, hG, hK, hsz, hmk, hini⟩ := C
  have hlen1 : len = 1 := Nat.eq_of_beq_eq_true hlen
  subst hlen1
  replace hs : ((match (generalizing := false) st with
    | .long x :: r => bif Nat.blt (i + 1) me.2.2.2.1 then some (pc + 1, lvPut2 lv i (.long x), r, h) else none
    | _ => none)) = some (pc', lv', st', h2) := hs
  split at hs
  next x r =>
    cases hb1 : Nat.blt ((i : Nat) + 1) me.2.2.2.1 with
    | false => rw [hb1] at hs; cases hs
    | true =>
      rw [hb1] at hs
      cases hs
      exact lv_lstore_n hx hb hd rfl hl (by simpa using hb1) (cvL_put2 β lv (i : Nat) (.long x)) (fun ls' hl' => K _ _ _ hl' hP hS)
  next => cases hs
set_option maxHeartbeats 1000000 in
theorem zs_astore (i : Nat) {p : Program} {l : Launch} {e : Env} {R : Room} {s : State} {m : MethodId} {args : Array Value} {below : List Frame} {meth : Method} {c : Code} {D : va_G} {cT : CT} {β : Nat → Nat} {base : Nat} {me : ME} {Ts : List Cond} {n0 : Nat} {scr : Option (Nat × (Nat → Int32))} (C : Ctx p s m args meth c D cT base me Ts n0) (hsc : ScrOK scr β s base) (hβ : ∀ i, i < 4096 → β i = base + i) {pc len : Nat} {lv lv' : LV} {st st' : List Value} {h h2 : Hp} {pc' : Nat} (hs : zStep scr me.1 me.2.2.2.1 pc (isIni me) (.astore i) len lv st h = some (pc', lv', st', h2)) (hd : decode me.2.2.1 pc = .ok (.astore i, len)) (hlen : lenOK (.astore i) len = true) (hroom : rOKb me (pc, .astore i, len) = true) (hR : (me.2.2.2.2.2.2.1 ≤ R.frames ∧ me.2.2.2.2.2.2.2 ≤ R.locals) ∧ h2.1 - n0 ≤ R.cells ∧ szS h2.1 - szS n0 ≤ R.slots) (hn0 : n0 ≤ h.1) (h83 : h.1 ≤ 83) {H : Heap} {locs : List Loc} {ls : Array Slot} {Q : State → Prop} (hl : lv_has ls me.2.2.2.1 (cvL β lv)) (hP : va_P D vwCl (wsOf β cT h) H) (hS : va_S (fun q => base ≤ q) s.heap H locs)
    (K : ∀ (H' : Heap) (locs' : List Loc) (ls' : Array Slot), lv_has ls' me.2.2.2.1 (cvL β lv') → va_P D vwCl (wsOf β cT h2) H' → va_S (fun q => base ≤ q) s.heap H' locs' → W p l e R s m args below meth c H' locs' (h2.1 - n0) (szS h2.1 - szS n0) Q (F0 m pc' ls' (st'.map (cv β)))) :
    W p l e R s m args below meth c H locs (h.1 - n0) (szS h.1 - szS n0) Q (F0 m pc ls (st.map (cv β))) := by
  obtain ⟨hx, hb, hml, hown, hts, hG, hK, hsz, hmk, hini⟩ := C
  have hlen1 : len = 2 := Nat.eq_of_beq_eq_true hlen
  subst hlen1
  replace hs : ((match (generalizing := false) st with
    | .ref x :: r => bif Nat.blt i me.2.2.2.1 then some (pc + 2, lvPut lv i (.ref x), r, h) else none
    | _ => none)) = some (pc', lv', st', h2) := hs
  split at hs
  next x r =>
    cases hb1 : Nat.blt i me.2.2.2.1 with
    | false => rw [hb1] at hs; cases hs
    | true =>
      rw [hb1] at hs
      cases hs
      exact lv_astore hx hb hd hl (by simpa using hb1) (cvL_put β lv i (.ref x)) (fun ls' hl' => K _ _ _ hl' hP hS)
  next => cases hs
set_option maxHeartbeats 1000000 in
theorem zs_astore_n (i : Fin 4) {p : Program} {l : Launch} {e : Env} {R : Room} {s : State} {m : MethodId} {args : Array Value} {below : List Frame} {meth : Method} {c : Code} {D : va_G} {cT : CT} {β : Nat → Nat} {base : Nat} {me : ME} {Ts : List Cond} {n0 : Nat} {scr : Option (Nat × (Nat → Int32))} (C : Ctx p s m args meth c D cT base me Ts n0) (hsc : ScrOK scr β s base) (hβ : ∀ i, i < 4096 → β i = base + i) {pc len : Nat} {lv lv' : LV} {st st' : List Value} {h h2 : Hp} {pc' : Nat} (hs : zStep scr me.1 me.2.2.2.1 pc (isIni me) (.astore_n i) len lv st h = some (pc', lv', st', h2)) (hd : decode me.2.2.1 pc = .ok (.astore_n i, len)) (hlen : lenOK (.astore_n i) len = true) (hroom : rOKb me (pc, .astore_n i, len) = true) (hR : (me.2.2.2.2.2.2.1 ≤ R.frames ∧ me.2.2.2.2.2.2.2 ≤ R.locals) ∧ h2.1 - n0 ≤ R.cells ∧ szS h2.1 - szS n0 ≤ R.slots) (hn0 : n0 ≤ h.1) (h83 : h.1 ≤ 83) {H : Heap} {locs : List Loc} {ls : Array Slot} {Q : State → Prop} (hl : lv_has ls me.2.2.2.1 (cvL β lv)) (hP : va_P D vwCl (wsOf β cT h) H) (hS : va_S (fun q => base ≤ q) s.heap H locs)
    (K : ∀ (H' : Heap) (locs' : List Loc) (ls' : Array Slot), lv_has ls' me.2.2.2.1 (cvL β lv') → va_P D vwCl (wsOf β cT h2) H' → va_S (fun q => base ≤ q) s.heap H' locs' → W p l e R s m args below meth c H' locs' (h2.1 - n0) (szS h2.1 - szS n0) Q (F0 m pc' ls' (st'.map (cv β)))) :
    W p l e R s m args below meth c H locs (h.1 - n0) (szS h.1 - szS n0) Q (F0 m pc ls (st.map (cv β))) := by
  obtain ⟨hx, hb, hml, hown, hts, hG, hK, hsz, hmk, hini⟩ := C
  have hlen1 : len = 1 := Nat.eq_of_beq_eq_true hlen
  subst hlen1
  replace hs : ((match (generalizing := false) st with
    | .ref x :: r => bif Nat.blt i me.2.2.2.1 then some (pc + 1, lvPut lv i (.ref x), r, h) else none
    | _ => none)) = some (pc', lv', st', h2) := hs
  split at hs
  next x r =>
    cases hb1 : Nat.blt (i : Nat) me.2.2.2.1 with
    | false => rw [hb1] at hs; cases hs
    | true =>
      rw [hb1] at hs
      cases hs
      exact lv_astore_n hx hb hd rfl hl (by simpa using hb1) (cvL_put β lv (i : Nat) (.ref x)) (fun ls' hl' => K _ _ _ hl' hP hS)
  next => cases hs
set_option maxHeartbeats 1000000 in
theorem zs_iinc (i : Nat) (n : Int) {p : Program} {l : Launch} {e : Env} {R : Room} {s : State} {m : MethodId} {args : Array Value} {below : List Frame} {meth : Method} {c : Code} {D : va_G} {cT : CT} {β : Nat → Nat} {base : Nat} {me : ME} {Ts : List Cond} {n0 : Nat} {scr : Option (Nat × (Nat → Int32))} (C : Ctx p s m args meth c D cT base me Ts n0) (hsc : ScrOK scr β s base) (hβ : ∀ i, i < 4096 → β i = base + i) {pc len : Nat} {lv lv' : LV} {st st' : List Value} {h h2 : Hp} {pc' : Nat} (hs : zStep scr me.1 me.2.2.2.1 pc (isIni me) (.iinc i n) len lv st h = some (pc', lv', st', h2)) (hd : decode me.2.2.1 pc = .ok (.iinc i n, len)) (hlen : lenOK (.iinc i n) len = true) (hroom : rOKb me (pc, .iinc i n, len) = true) (hR : (me.2.2.2.2.2.2.1 ≤ R.frames ∧ me.2.2.2.2.2.2.2 ≤ R.locals) ∧ h2.1 - n0 ≤ R.cells ∧ szS h2.1 - szS n0 ≤ R.slots) (hn0 : n0 ≤ h.1) (h83 : h.1 ≤ 83) {H : Heap} {locs : List Loc} {ls : Array Slot} {Q : State → Prop} (hl : lv_has ls me.2.2.2.1 (cvL β lv)) (hP : va_P D vwCl (wsOf β cT h) H) (hS : va_S (fun q => base ≤ q) s.heap H locs)
    (K : ∀ (H' : Heap) (locs' : List Loc) (ls' : Array Slot), lv_has ls' me.2.2.2.1 (cvL β lv') → va_P D vwCl (wsOf β cT h2) H' → va_S (fun q => base ≤ q) s.heap H' locs' → W p l e R s m args below meth c H' locs' (h2.1 - n0) (szS h2.1 - szS n0) Q (F0 m pc' ls' (st'.map (cv β)))) :
    W p l e R s m args below meth c H locs (h.1 - n0) (szS h.1 - szS n0) Q (F0 m pc ls (st.map (cv β))) := by
  obtain ⟨hx, hb, hml, hown, hts, hG, hK, hsz, hmk, hini⟩ := C
  have hlen1 : len = 3 := Nat.eq_of_beq_eq_true hlen
  subst hlen1
  replace hs : ((match (generalizing := false) ldI lv i with
    | some x => bif Nat.blt i me.2.2.2.1 then some (pc + 3, lvPut lv i (.int (x + Int32.ofInt n)), st, h) else none
    | none => none)) = some (pc', lv', st', h2) := hs
  split at hs
  next x hv =>
    cases hb1 : Nat.blt i me.2.2.2.1 with
    | false => rw [hb1] at hs; cases hs
    | true =>
      rw [hb1] at hs
      cases hs
      obtain ⟨k, hk⟩ := ldI_k (β := β) hv
      exact lv_iinc hx hb hd hl hk rfl (by simpa using hb1) (cvL_put β lv i (.int (x + Int32.ofInt n))) (fun ls' hl' => K _ _ _ hl' hP hS)
  next => cases hs
set_option maxHeartbeats 1000000 in
theorem zs_dup  {p : Program} {l : Launch} {e : Env} {R : Room} {s : State} {m : MethodId} {args : Array Value} {below : List Frame} {meth : Method} {c : Code} {D : va_G} {cT : CT} {β : Nat → Nat} {base : Nat} {me : ME} {Ts : List Cond} {n0 : Nat} {scr : Option (Nat × (Nat → Int32))} (C : Ctx p s m args meth c D cT base me Ts n0) (hsc : ScrOK scr β s base) (hβ : ∀ i, i < 4096 → β i = base + i) {pc len : Nat} {lv lv' : LV} {st st' : List Value} {h h2 : Hp} {pc' : Nat} (hs : zStep scr me.1 me.2.2.2.1 pc (isIni me) (.dup) len lv st h = some (pc', lv', st', h2)) (hd : decode me.2.2.1 pc = .ok (.dup, len)) (hlen : lenOK (.dup) len = true) (hroom : rOKb me (pc, .dup, len) = true) (hR : (me.2.2.2.2.2.2.1 ≤ R.frames ∧ me.2.2.2.2.2.2.2 ≤ R.locals) ∧ h2.1 - n0 ≤ R.cells ∧ szS h2.1 - szS n0 ≤ R.slots) (hn0 : n0 ≤ h.1) (h83 : h.1 ≤ 83) {H : Heap} {locs : List Loc} {ls : Array Slot} {Q : State → Prop} (hl : lv_has ls me.2.2.2.1 (cvL β lv)) (hP : va_P D vwCl (wsOf β cT h) H) (hS : va_S (fun q => base ≤ q) s.heap H locs)
    (K : ∀ (H' : Heap) (locs' : List Loc) (ls' : Array Slot), lv_has ls' me.2.2.2.1 (cvL β lv') → va_P D vwCl (wsOf β cT h2) H' → va_S (fun q => base ≤ q) s.heap H' locs' → W p l e R s m args below meth c H' locs' (h2.1 - n0) (szS h2.1 - szS n0) Q (F0 m pc' ls' (st'.map (cv β)))) :
    W p l e R s m args below meth c H locs (h.1 - n0) (szS h.1 - szS n0) Q (F0 m pc ls (st.map (cv β))) := by
  obtain ⟨hx, hb, hml, hown, hts, hG, hK, hsz, hmk, hini⟩ := C
  have hlen1 : len = 1 := Nat.eq_of_beq_eq_true hlen
  subst hlen1
  replace hs : ((match (generalizing := false) st with
    | v :: r => bif Nat.beq v.category 1 then some (pc + 1, lv, v :: v :: r, h) else none
    | _ => none)) = some (pc', lv', st', h2) := hs
  split at hs
  next v r =>
    cases hb1 : Nat.beq v.category 1 with
    | false => rw [hb1] at hs; cases hs
    | true =>
      rw [hb1] at hs
      cases hs
      exact lv_dup hx hb hd (by rw [cv_cat]; exact Nat.eq_of_beq_eq_true hb1) (K _ _ _ hl hP hS)
  next => cases hs
set_option maxHeartbeats 1000000 in
theorem zs_pop  {p : Program} {l : Launch} {e : Env} {R : Room} {s : State} {m : MethodId} {args : Array Value} {below : List Frame} {meth : Method} {c : Code} {D : va_G} {cT : CT} {β : Nat → Nat} {base : Nat} {me : ME} {Ts : List Cond} {n0 : Nat} {scr : Option (Nat × (Nat → Int32))} (C : Ctx p s m args meth c D cT base me Ts n0) (hsc : ScrOK scr β s base) (hβ : ∀ i, i < 4096 → β i = base + i) {pc len : Nat} {lv lv' : LV} {st st' : List Value} {h h2 : Hp} {pc' : Nat} (hs : zStep scr me.1 me.2.2.2.1 pc (isIni me) (.pop) len lv st h = some (pc', lv', st', h2)) (hd : decode me.2.2.1 pc = .ok (.pop, len)) (hlen : lenOK (.pop) len = true) (hroom : rOKb me (pc, .pop, len) = true) (hR : (me.2.2.2.2.2.2.1 ≤ R.frames ∧ me.2.2.2.2.2.2.2 ≤ R.locals) ∧ h2.1 - n0 ≤ R.cells ∧ szS h2.1 - szS n0 ≤ R.slots) (hn0 : n0 ≤ h.1) (h83 : h.1 ≤ 83) {H : Heap} {locs : List Loc} {ls : Array Slot} {Q : State → Prop} (hl : lv_has ls me.2.2.2.1 (cvL β lv)) (hP : va_P D vwCl (wsOf β cT h) H) (hS : va_S (fun q => base ≤ q) s.heap H locs)
    (K : ∀ (H' : Heap) (locs' : List Loc) (ls' : Array Slot), lv_has ls' me.2.2.2.1 (cvL β lv') → va_P D vwCl (wsOf β cT h2) H' → va_S (fun q => base ≤ q) s.heap H' locs' → W p l e R s m args below meth c H' locs' (h2.1 - n0) (szS h2.1 - szS n0) Q (F0 m pc' ls' (st'.map (cv β)))) :
    W p l e R s m args below meth c H locs (h.1 - n0) (szS h.1 - szS n0) Q (F0 m pc ls (st.map (cv β))) := by
  obtain ⟨hx, hb, hml, hown, hts, hG, hK, hsz, hmk, hini⟩ := C
  have hlen1 : len = 1 := Nat.eq_of_beq_eq_true hlen
  subst hlen1
  replace hs : ((match (generalizing := false) st with
    | v :: r => bif Nat.beq v.category 1 then some (pc + 1, lv, r, h) else none
    | _ => none)) = some (pc', lv', st', h2) := hs
  split at hs
  next v r =>
    cases hb1 : Nat.beq v.category 1 with
    | false => rw [hb1] at hs; cases hs
    | true =>
      rw [hb1] at hs
      cases hs
      exact lv_pop hx hb hd (va := cv β v) (by rw [cv_cat]; exact Nat.eq_of_beq_eq_true hb1) (K _ _ _ hl hP hS)
  next => cases hs
set_option maxHeartbeats 1000000 in
theorem zs_dup2  {p : Program} {l : Launch} {e : Env} {R : Room} {s : State} {m : MethodId} {args : Array Value} {below : List Frame} {meth : Method} {c : Code} {D : va_G} {cT : CT} {β : Nat → Nat} {base : Nat} {me : ME} {Ts : List Cond} {n0 : Nat} {scr : Option (Nat × (Nat → Int32))} (C : Ctx p s m args meth c D cT base me Ts n0) (hsc : ScrOK scr β s base) (hβ : ∀ i, i < 4096 → β i = base + i) {pc len : Nat} {lv lv' : LV} {st st' : List Value} {h h2 : Hp} {pc' : Nat} (hs : zStep scr me.1 me.2.2.2.1 pc (isIni me) (.dup2) len lv st h = some (pc', lv', st', h2)) (hd : decode me.2.2.1 pc = .ok (.dup2, len)) (hlen : lenOK (.dup2) len = true) (hroom : rOKb me (pc, .dup2, len) = true) (hR : (me.2.2.2.2.2.2.1 ≤ R.frames ∧ me.2.2.2.2.2.2.2 ≤ R.locals) ∧ h2.1 - n0 ≤ R.cells ∧ szS h2.1 - szS n0 ≤ R.slots) (hn0 : n0 ≤ h.1) (h83 : h.1 ≤ 83) {H : Heap} {locs : List Loc} {ls : Array Slot} {Q : State → Prop} (hl : lv_has ls me.2.2.2.1 (cvL β lv)) (hP : va_P D vwCl (wsOf β cT h) H) (hS : va_S (fun q => base ≤ q) s.heap H locs)
    (K : ∀ (H' : Heap) (locs' : List Loc) (ls' : Array Slot), lv_has ls' me.2.2.2.1 (cvL β lv') → va_P D vwCl (wsOf β cT h2) H' → va_S (fun q => base ≤ q) s.heap H' locs' → W p l e R s m args below meth c H' locs' (h2.1 - n0) (szS h2.1 - szS n0) Q (F0 m pc' ls' (st'.map (cv β)))) :
    W p l e R s m args below meth c H locs (h.1 - n0) (szS h.1 - szS n0) Q (F0 m pc ls (st.map (cv β))) := by
  obtain ⟨hx, hb, hml, hown, hts, hG, hK, hsz, hmk, hini⟩ := C
  have hlen1 : len = 1 := Nat.eq_of_beq_eq_true hlen
  subst hlen1
  replace hs : ((match (generalizing := false) st with
    | v :: w :: r => bif Nat.beq v.category 1 && Nat.beq w.category 1 then some (pc + 1, lv, v :: w :: v :: w :: r, h) else none
    | _ => none)) = some (pc', lv', st', h2) := hs
  split at hs
  next v w r =>
    cases hb1 : Nat.beq v.category 1 && Nat.beq w.category 1 with
    | false => rw [hb1] at hs; cases hs
    | true =>
      rw [hb1] at hs
      cases hs
      rw [Bool.and_eq_true] at hb1
      exact lv_dup2_11 hx hb hd (by rw [cv_cat]; exact Nat.eq_of_beq_eq_true hb1.1) (by rw [cv_cat]; exact Nat.eq_of_beq_eq_true hb1.2) (K _ _ _ hl hP hS)
  next => cases hs
set_option maxHeartbeats 1000000 in
theorem zs_iadd  {p : Program} {l : Launch} {e : Env} {R : Room} {s : State} {m : MethodId} {args : Array Value} {below : List Frame} {meth : Method} {c : Code} {D : va_G} {cT : CT} {β : Nat → Nat} {base : Nat} {me : ME} {Ts : List Cond} {n0 : Nat} {scr : Option (Nat × (Nat → Int32))} (C : Ctx p s m args meth c D cT base me Ts n0) (hsc : ScrOK scr β s base) (hβ : ∀ i, i < 4096 → β i = base + i) {pc len : Nat} {lv lv' : LV} {st st' : List Value} {h h2 : Hp} {pc' : Nat} (hs : zStep scr me.1 me.2.2.2.1 pc (isIni me) (.iadd) len lv st h = some (pc', lv', st', h2)) (hd : decode me.2.2.1 pc = .ok (.iadd, len)) (hlen : lenOK (.iadd) len = true) (hroom : rOKb me (pc, .iadd, len) = true) (hR : (me.2.2.2.2.2.2.1 ≤ R.frames ∧ me.2.2.2.2.2.2.2 ≤ R.locals) ∧ h2.1 - n0 ≤ R.cells ∧ szS h2.1 - szS n0 ≤ R.slots) (hn0 : n0 ≤ h.1) (h83 : h.1 ≤ 83) {H : Heap} {locs : List Loc} {ls : Array Slot} {Q : State → Prop} (hl : lv_has ls me.2.2.2.1 (cvL β lv)) (hP : va_P D vwCl (wsOf β cT h) H) (hS : va_S (fun q => base ≤ q) s.heap H locs)
    (K : ∀ (H' : Heap) (locs' : List Loc) (ls' : Array Slot), lv_has ls' me.2.2.2.1 (cvL β lv') → va_P D vwCl (wsOf β cT h2) H' → va_S (fun q => base ≤ q) s.heap H' locs' → W p l e R s m args below meth c H' locs' (h2.1 - n0) (szS h2.1 - szS n0) Q (F0 m pc' ls' (st'.map (cv β)))) :
    W p l e R s m args below meth c H locs (h.1 - n0) (szS h.1 - szS n0) Q (F0 m pc ls (st.map (cv β))) := by
  obtain ⟨hx, hb, hml, hown, hts, hG, hK, hsz, hmk, hini⟩ := C
  have hlen1 : len = 1 := Nat.eq_of_beq_eq_true hlen
  subst hlen1
  replace hs : ((match (generalizing := false) st with
    | .int y :: .int x :: r => some (pc + 1, lv, .int (x + y) :: r, h)
    | _ => none)) = some (pc', lv', st', h2) := hs
  split at hs
  next y x r => cases hs; exact lv_iadd hx hb hd (K _ _ _ hl hP hS)
  next => cases hs
set_option maxHeartbeats 1000000 in
theorem zs_isub  {p : Program} {l : Launch} {e : Env} {R : Room} {s : State} {m : MethodId} {args : Array Value} {below : List Frame} {meth : Method} {c : Code} {D : va_G} {cT : CT} {β : Nat → Nat} {base : Nat} {me : ME} {Ts : List Cond} {n0 : Nat} {scr : Option (Nat × (Nat → Int32))} (C : Ctx p s m args meth c D cT base me Ts n0) (hsc : ScrOK scr β s base) (hβ : ∀ i, i < 4096 → β i = base + i) {pc len : Nat} {lv lv' : LV} {st st' : List Value} {h h2 : Hp} {pc' : Nat} (hs : zStep scr me.1 me.2.2.2.1 pc (isIni me) (.isub) len lv st h = some (pc', lv', st', h2)) (hd : decode me.2.2.1 pc = .ok (.isub, len)) (hlen : lenOK (.isub) len = true) (hroom : rOKb me (pc, .isub, len) = true) (hR : (me.2.2.2.2.2.2.1 ≤ R.frames ∧ me.2.2.2.2.2.2.2 ≤ R.locals) ∧ h2.1 - n0 ≤ R.cells ∧ szS h2.1 - szS n0 ≤ R.slots) (hn0 : n0 ≤ h.1) (h83 : h.1 ≤ 83) {H : Heap} {locs : List Loc} {ls : Array Slot} {Q : State → Prop} (hl : lv_has ls me.2.2.2.1 (cvL β lv)) (hP : va_P D vwCl (wsOf β cT h) H) (hS : va_S (fun q => base ≤ q) s.heap H locs)
    (K : ∀ (H' : Heap) (locs' : List Loc) (ls' : Array Slot), lv_has ls' me.2.2.2.1 (cvL β lv') → va_P D vwCl (wsOf β cT h2) H' → va_S (fun q => base ≤ q) s.heap H' locs' → W p l e R s m args below meth c H' locs' (h2.1 - n0) (szS h2.1 - szS n0) Q (F0 m pc' ls' (st'.map (cv β)))) :
    W p l e R s m args below meth c H locs (h.1 - n0) (szS h.1 - szS n0) Q (F0 m pc ls (st.map (cv β))) := by
  obtain ⟨hx, hb, hml, hown, hts, hG, hK, hsz, hmk, hini⟩ := C
  have hlen1 : len = 1 := Nat.eq_of_beq_eq_true hlen
  subst hlen1
  replace hs : ((match (generalizing := false) st with
    | .int y :: .int x :: r => some (pc + 1, lv, .int (x - y) :: r, h)
    | _ => none)) = some (pc', lv', st', h2) := hs
  split at hs
  next y x r => cases hs; exact lv_isub hx hb hd (K _ _ _ hl hP hS)
  next => cases hs
set_option maxHeartbeats 1000000 in
theorem zs_imul  {p : Program} {l : Launch} {e : Env} {R : Room} {s : State} {m : MethodId} {args : Array Value} {below : List Frame} {meth : Method} {c : Code} {D : va_G} {cT : CT} {β : Nat → Nat} {base : Nat} {me : ME} {Ts : List Cond} {n0 : Nat} {scr : Option (Nat × (Nat → Int32))} (C : Ctx p s m args meth c D cT base me Ts n0) (hsc : ScrOK scr β s base) (hβ : ∀ i, i < 4096 → β i = base + i) {pc len : Nat} {lv lv' : LV} {st st' : List Value} {h h2 : Hp} {pc' : Nat} (hs : zStep scr me.1 me.2.2.2.1 pc (isIni me) (.imul) len lv st h = some (pc', lv', st', h2)) (hd : decode me.2.2.1 pc = .ok (.imul, len)) (hlen : lenOK (.imul) len = true) (hroom : rOKb me (pc, .imul, len) = true) (hR : (me.2.2.2.2.2.2.1 ≤ R.frames ∧ me.2.2.2.2.2.2.2 ≤ R.locals) ∧ h2.1 - n0 ≤ R.cells ∧ szS h2.1 - szS n0 ≤ R.slots) (hn0 : n0 ≤ h.1) (h83 : h.1 ≤ 83) {H : Heap} {locs : List Loc} {ls : Array Slot} {Q : State → Prop} (hl : lv_has ls me.2.2.2.1 (cvL β lv)) (hP : va_P D vwCl (wsOf β cT h) H) (hS : va_S (fun q => base ≤ q) s.heap H locs)
    (K : ∀ (H' : Heap) (locs' : List Loc) (ls' : Array Slot), lv_has ls' me.2.2.2.1 (cvL β lv') → va_P D vwCl (wsOf β cT h2) H' → va_S (fun q => base ≤ q) s.heap H' locs' → W p l e R s m args below meth c H' locs' (h2.1 - n0) (szS h2.1 - szS n0) Q (F0 m pc' ls' (st'.map (cv β)))) :
    W p l e R s m args below meth c H locs (h.1 - n0) (szS h.1 - szS n0) Q (F0 m pc ls (st.map (cv β))) := by
  obtain ⟨hx, hb, hml, hown, hts, hG, hK, hsz, hmk, hini⟩ := C
  have hlen1 : len = 1 := Nat.eq_of_beq_eq_true hlen
  subst hlen1
  replace hs : ((match (generalizing := false) st with
    | .int y :: .int x :: r => some (pc + 1, lv, .int (x * y) :: r, h)
    | _ => none)) = some (pc', lv', st', h2) := hs
  split at hs
  next y x r => cases hs; exact lv_imul hx hb hd (K _ _ _ hl hP hS)
  next => cases hs
set_option maxHeartbeats 1000000 in
theorem zs_iand  {p : Program} {l : Launch} {e : Env} {R : Room} {s : State} {m : MethodId} {args : Array Value} {below : List Frame} {meth : Method} {c : Code} {D : va_G} {cT : CT} {β : Nat → Nat} {base : Nat} {me : ME} {Ts : List Cond} {n0 : Nat} {scr : Option (Nat × (Nat → Int32))} (C : Ctx p s m args meth c D cT base me Ts n0) (hsc : ScrOK scr β s base) (hβ : ∀ i, i < 4096 → β i = base + i) {pc len : Nat} {lv lv' : LV} {st st' : List Value} {h h2 : Hp} {pc' : Nat} (hs : zStep scr me.1 me.2.2.2.1 pc (isIni me) (.iand) len lv st h = some (pc', lv', st', h2)) (hd : decode me.2.2.1 pc = .ok (.iand, len)) (hlen : lenOK (.iand) len = true) (hroom : rOKb me (pc, .iand, len) = true) (hR : (me.2.2.2.2.2.2.1 ≤ R.frames ∧ me.2.2.2.2.2.2.2 ≤ R.locals) ∧ h2.1 - n0 ≤ R.cells ∧ szS h2.1 - szS n0 ≤ R.slots) (hn0 : n0 ≤ h.1) (h83 : h.1 ≤ 83) {H : Heap} {locs : List Loc} {ls : Array Slot} {Q : State → Prop} (hl : lv_has ls me.2.2.2.1 (cvL β lv)) (hP : va_P D vwCl (wsOf β cT h) H) (hS : va_S (fun q => base ≤ q) s.heap H locs)
    (K : ∀ (H' : Heap) (locs' : List Loc) (ls' : Array Slot), lv_has ls' me.2.2.2.1 (cvL β lv') → va_P D vwCl (wsOf β cT h2) H' → va_S (fun q => base ≤ q) s.heap H' locs' → W p l e R s m args below meth c H' locs' (h2.1 - n0) (szS h2.1 - szS n0) Q (F0 m pc' ls' (st'.map (cv β)))) :
    W p l e R s m args below meth c H locs (h.1 - n0) (szS h.1 - szS n0) Q (F0 m pc ls (st.map (cv β))) := by
  obtain ⟨hx, hb, hml, hown, hts, hG, hK, hsz, hmk, hini⟩ := C
  have hlen1 : len = 1 := Nat.eq_of_beq_eq_true hlen
  subst hlen1
  replace hs : ((match (generalizing := false) st with
    | .int y :: .int x :: r => some (pc + 1, lv, .int (x &&& y) :: r, h)
    | _ => none)) = some (pc', lv', st', h2) := hs
  split at hs
  next y x r => cases hs; exact lv_iand hx hb hd (K _ _ _ hl hP hS)
  next => cases hs
set_option maxHeartbeats 1000000 in
theorem zs_ior  {p : Program} {l : Launch} {e : Env} {R : Room} {s : State} {m : MethodId} {args : Array Value} {below : List Frame} {meth : Method} {c : Code} {D : va_G} {cT : CT} {β : Nat → Nat} {base : Nat} {me : ME} {Ts : List Cond} {n0 : Nat} {scr : Option (Nat × (Nat → Int32))} (C : Ctx p s m args meth c D cT base me Ts n0) (hsc : ScrOK scr β s base) (hβ : ∀ i, i < 4096 → β i = base + i) {pc len : Nat} {lv lv' : LV} {st st' : List Value} {h h2 : Hp} {pc' : Nat} (hs : zStep scr me.1 me.2.2.2.1 pc (isIni me) (.ior) len lv st h = some (pc', lv', st', h2)) (hd : decode me.2.2.1 pc = .ok (.ior, len)) (hlen : lenOK (.ior) len = true) (hroom : rOKb me (pc, .ior, len) = true) (hR : (me.2.2.2.2.2.2.1 ≤ R.frames ∧ me.2.2.2.2.2.2.2 ≤ R.locals) ∧ h2.1 - n0 ≤ R.cells ∧ szS h2.1 - szS n0 ≤ R.slots) (hn0 : n0 ≤ h.1) (h83 : h.1 ≤ 83) {H : Heap} {locs : List Loc} {ls : Array Slot} {Q : State → Prop} (hl : lv_has ls me.2.2.2.1 (cvL β lv)) (hP : va_P D vwCl (wsOf β cT h) H) (hS : va_S (fun q => base ≤ q) s.heap H locs)
    (K : ∀ (H' : Heap) (locs' : List Loc) (ls' : Array Slot), lv_has ls' me.2.2.2.1 (cvL β lv') → va_P D vwCl (wsOf β cT h2) H' → va_S (fun q => base ≤ q) s.heap H' locs' → W p l e R s m args below meth c H' locs' (h2.1 - n0) (szS h2.1 - szS n0) Q (F0 m pc' ls' (st'.map (cv β)))) :
    W p l e R s m args below meth c H locs (h.1 - n0) (szS h.1 - szS n0) Q (F0 m pc ls (st.map (cv β))) := by
  obtain ⟨hx, hb, hml, hown, hts, hG, hK, hsz, hmk, hini⟩ := C
  have hlen1 : len = 1 := Nat.eq_of_beq_eq_true hlen
  subst hlen1
  replace hs : ((match (generalizing := false) st with
    | .int y :: .int x :: r => some (pc + 1, lv, .int (x ||| y) :: r, h)
    | _ => none)) = some (pc', lv', st', h2) := hs
  split at hs
  next y x r => cases hs; exact lv_ior hx hb hd (K _ _ _ hl hP hS)
  next => cases hs
set_option maxHeartbeats 1000000 in
theorem zs_ixor  {p : Program} {l : Launch} {e : Env} {R : Room} {s : State} {m : MethodId} {args : Array Value} {below : List Frame} {meth : Method} {c : Code} {D : va_G} {cT : CT} {β : Nat → Nat} {base : Nat} {me : ME} {Ts : List Cond} {n0 : Nat} {scr : Option (Nat × (Nat → Int32))} (C : Ctx p s m args meth c D cT base me Ts n0) (hsc : ScrOK scr β s base) (hβ : ∀ i, i < 4096 → β i = base + i) {pc len : Nat} {lv lv' : LV} {st st' : List Value} {h h2 : Hp} {pc' : Nat} (hs : zStep scr me.1 me.2.2.2.1 pc (isIni me) (.ixor) len lv st h = some (pc', lv', st', h2)) (hd : decode me.2.2.1 pc = .ok (.ixor, len)) (hlen : lenOK (.ixor) len = true) (hroom : rOKb me (pc, .ixor, len) = true) (hR : (me.2.2.2.2.2.2.1 ≤ R.frames ∧ me.2.2.2.2.2.2.2 ≤ R.locals) ∧ h2.1 - n0 ≤ R.cells ∧ szS h2.1 - szS n0 ≤ R.slots) (hn0 : n0 ≤ h.1) (h83 : h.1 ≤ 83) {H : Heap} {locs : List Loc} {ls : Array Slot} {Q : State → Prop} (hl : lv_has ls me.2.2.2.1 (cvL β lv)) (hP : va_P D vwCl (wsOf β cT h) H) (hS : va_S (fun q => base ≤ q) s.heap H locs)
    (K : ∀ (H' : Heap) (locs' : List Loc) (ls' : Array Slot), lv_has ls' me.2.2.2.1 (cvL β lv') → va_P D vwCl (wsOf β cT h2) H' → va_S (fun q => base ≤ q) s.heap H' locs' → W p l e R s m args below meth c H' locs' (h2.1 - n0) (szS h2.1 - szS n0) Q (F0 m pc' ls' (st'.map (cv β)))) :
    W p l e R s m args below meth c H locs (h.1 - n0) (szS h.1 - szS n0) Q (F0 m pc ls (st.map (cv β))) := by
  obtain ⟨hx, hb, hml, hown, hts, hG, hK, hsz, hmk, hini⟩ := C
  have hlen1 : len = 1 := Nat.eq_of_beq_eq_true hlen
  subst hlen1
  replace hs : ((match (generalizing := false) st with
    | .int y :: .int x :: r => some (pc + 1, lv, .int (x ^^^ y) :: r, h)
    | _ => none)) = some (pc', lv', st', h2) := hs
  split at hs
  next y x r => cases hs; exact lv_ixor hx hb hd (K _ _ _ hl hP hS)
  next => cases hs
set_option maxHeartbeats 1000000 in
theorem zs_ishl  {p : Program} {l : Launch} {e : Env} {R : Room} {s : State} {m : MethodId} {args : Array Value} {below : List Frame} {meth : Method} {c : Code} {D : va_G} {cT : CT} {β : Nat → Nat} {base : Nat} {me : ME} {Ts : List Cond} {n0 : Nat} {scr : Option (Nat × (Nat → Int32))} (C : Ctx p s m args meth c D cT base me Ts n0) (hsc : ScrOK scr β s base) (hβ : ∀ i, i < 4096 → β i = base + i) {pc len : Nat} {lv lv' : LV} {st st' : List Value} {h h2 : Hp} {pc' : Nat} (hs : zStep scr me.1 me.2.2.2.1 pc (isIni me) (.ishl) len lv st h = some (pc', lv', st', h2)) (hd : decode me.2.2.1 pc = .ok (.ishl, len)) (hlen : lenOK (.ishl) len = true) (hroom : rOKb me (pc, .ishl, len) = true) (hR : (me.2.2.2.2.2.2.1 ≤ R.frames ∧ me.2.2.2.2.2.2.2 ≤ R.locals) ∧ h2.1 - n0 ≤ R.cells ∧ szS h2.1 - szS n0 ≤ R.slots) (hn0 : n0 ≤ h.1) (h83 : h.1 ≤ 83) {H : Heap} {locs : List Loc} {ls : Array Slot} {Q : State → Prop} (hl : lv_has ls me.2.2.2.1 (cvL β lv)) (hP : va_P D vwCl (wsOf β cT h) H) (hS : va_S (fun q => base ≤ q) s.heap H locs)
    (K : ∀ (H' : Heap) (locs' : List Loc) (ls' : Array Slot), lv_has ls' me.2.2.2.1 (cvL β lv') → va_P D vwCl (wsOf β cT h2) H' → va_S (fun q => base ≤ q) s.heap H' locs' → W p l e R s m args below meth c H' locs' (h2.1 - n0) (szS h2.1 - szS n0) Q (F0 m pc' ls' (st'.map (cv β)))) :
    W p l e R s m args below meth c H locs (h.1 - n0) (szS h.1 - szS n0) Q (F0 m pc ls (st.map (cv β))) := by
  obtain ⟨hx, hb, hml, hown, hts, hG, hK, hsz, hmk, hini⟩ := C
  have hlen1 : len = 1 := Nat.eq_of_beq_eq_true hlen
  subst hlen1
  replace hs : ((match (generalizing := false) st with
    | .int y :: .int x :: r => some (pc + 1, lv, .int (x <<< (y &&& 31)) :: r, h)
    | _ => none)) = some (pc', lv', st', h2) := hs
  split at hs
  next y x r => cases hs; exact lv_ishl hx hb hd (K _ _ _ hl hP hS)
  next => cases hs
set_option maxHeartbeats 1000000 in
theorem zs_ishr  {p : Program} {l : Launch} {e : Env} {R : Room} {s : State} {m : MethodId} {args : Array Value} {below : List Frame} {meth : Method} {c : Code} {D : va_G} {cT : CT} {β : Nat → Nat} {base : Nat} {me : ME} {Ts : List Cond} {n0 : Nat} {scr : Option (Nat × (Nat → Int32))} (C : Ctx p s m args meth c D cT base me Ts n0) (hsc : ScrOK scr β s base) (hβ : ∀ i, i < 4096 → β i = base + i) {pc len : Nat} {lv lv' : LV} {st st' : List Value} {h h2 : Hp} {pc' : Nat} (hs : zStep scr me.1 me.2.2.2.1 pc (isIni me) (.ishr) len lv st h = some (pc', lv', st', h2)) (hd : decode me.2.2.1 pc = .ok (.ishr, len)) (hlen : lenOK (.ishr) len = true) (hroom : rOKb me (pc, .ishr, len) = true) (hR : (me.2.2.2.2.2.2.1 ≤ R.frames ∧ me.2.2.2.2.2.2.2 ≤ R.locals) ∧ h2.1 - n0 ≤ R.cells ∧ szS h2.1 - szS n0 ≤ R.slots) (hn0 : n0 ≤ h.1) (h83 : h.1 ≤ 83) {H : Heap} {locs : List Loc} {ls : Array Slot} {Q : State → Prop} (hl : lv_has ls me.2.2.2.1 (cvL β lv)) (hP : va_P D vwCl (wsOf β cT h) H) (hS : va_S (fun q => base ≤ q) s.heap H locs)
    (K : ∀ (H' : Heap) (locs' : List Loc) (ls' : Array Slot), lv_has ls' me.2.2.2.1 (cvL β lv') → va_P D vwCl (wsOf β cT h2) H' → va_S (fun q => base ≤ q) s.heap H' locs' → W p l e R s m args below meth c H' locs' (h2.1 - n0) (szS h2.1 - szS n0) Q (F0 m pc' ls' (st'.map (cv β)))) :
    W p l e R s m args below meth c H locs (h.1 - n0) (szS h.1 - szS n0) Q (F0 m pc ls (st.map (cv β))) := by
  obtain ⟨hx, hb, hml, hown, hts, hG, hK, hsz, hmk, hini⟩ := C
  have hlen1 : len = 1 := Nat.eq_of_beq_eq_true hlen
  subst hlen1
  replace hs : ((match (generalizing := false) st with
    | .int y :: .int x :: r => some (pc + 1, lv, .int (x >>> (y &&& 31)) :: r, h)
    | _ => none)) = some (pc', lv', st', h2) := hs
  split at hs
  next y x r => cases hs; exact lv_ishr hx hb hd (K _ _ _ hl hP hS)
  next => cases hs
set_option maxHeartbeats 1000000 in
theorem zs_ladd  {p : Program} {l : Launch} {e : Env} {R : Room} {s : State} {m : MethodId} {args : Array Value} {below : List Frame} {meth : Method} {c : Code} {D : va_G} {cT : CT} {β : Nat → Nat} {base : Nat} {me : ME} {Ts : List Cond} {n0 : Nat} {scr : Option (Nat × (Nat → Int32))} (C : Ctx p s m args meth c D cT base me Ts n0) (hsc : ScrOK scr β s base) (hβ : ∀ i, i < 4096 → β i = base + i) {pc len : Nat} {lv lv' : LV} {st st' : List Value} {h h2 : Hp} {pc' : Nat} (hs : zStep scr me.1 me.2.2.2.1 pc (isIni me) (.ladd) len lv st h = some (pc', lv', st', h2)) (hd : decode me.2.2.1 pc = .ok (.ladd, len)) (hlen : lenOK (.ladd) len = true) (hroom : rOKb me (pc, .ladd, len) = true) (hR : (me.2.2.2.2.2.2.1 ≤ R.frames ∧ me.2.2.2.2.2.2.2 ≤ R.locals) ∧ h2.1 - n0 ≤ R.cells ∧ szS h2.1 - szS n0 ≤ R.slots) (hn0 : n0 ≤ h.1) (h83 : h.1 ≤ 83) {H : Heap} {locs : List Loc} {ls : Array Slot} {Q : State → Prop} (hl : lv_has ls me.2.2.2.1 (cvL β lv)) (hP : va_P D vwCl (wsOf β cT h) H) (hS : va_S (fun q => base ≤ q) s.heap H locs)
    (K : ∀ (H' : Heap) (locs' : List Loc) (ls' : Array Slot), lv_has ls' me.2.2.2.1 (cvL β lv') → va_P D vwCl (wsOf β cT h2) H' → va_S (fun q => base ≤ q) s.heap H' locs' → W p l e R s m args below meth c H' locs' (h2.1 - n0) (szS h2.1 - szS n0) Q (F0 m pc' ls' (st'.map (cv β)))) :
    W p l e R s m args below meth c H locs (h.1 - n0) (szS h.1 - szS n0) Q (F0 m pc ls (st.map (cv β))) := by
  obtain ⟨hx, hb, hml, hown, hts, hG, hK, hsz, hmk, hini⟩ := C
  have hlen1 : len = 1 := Nat.eq_of_beq_eq_true hlen
  subst hlen1
  replace hs : ((match (generalizing := false) st with
    | .long y :: .long x :: r => some (pc + 1, lv, .long (x + y) :: r, h)
    | _ => none)) = some (pc', lv', st', h2) := hs
  split at hs
  next y x r => cases hs; exact lv_ladd hx hb hd (K _ _ _ hl hP hS)
  next => cases hs
set_option maxHeartbeats 1000000 in
theorem zs_lsub  {p : Program} {l : Launch} {e : Env} {R : Room} {s : State} {m : MethodId} {args : Array Value} {below : List Frame} {meth : Method} {c : Code} {D : va_G} {cT : CT} {β : Nat → Nat} {base : Nat} {me : ME} {Ts : List Cond} {n0 : Nat} {scr : Option (Nat × (Nat → Int32))} (C : Ctx p s m args meth c D cT base me Ts n0) (hsc : ScrOK scr β s base) (hβ : ∀ i, i < 4096 → β i = base + i) {pc len : Nat} {lv lv' : LV} {st st' : List Value} {h h2 : Hp} {pc' : Nat} (hs : zStep scr me.1 me.2.2.2.1 pc (isIni me) (.lsub) len lv st h = some (pc', lv', st', h2)) (hd : decode me.2.2.1 pc = .ok (.lsub, len)) (hlen : lenOK (.lsub) len = true) (hroom : rOKb me (pc, .lsub, len) = true) (hR : (me.2.2.2.2.2.2.1 ≤ R.frames ∧ me.2.2.2.2.2.2.2 ≤ R.locals) ∧ h2.1 - n0 ≤ R.cells ∧ szS h2.1 - szS n0 ≤ R.slots) (hn0 : n0 ≤ h.1) (h83 : h.1 ≤ 83) {H : Heap} {locs : List Loc} {ls : Array Slot} {Q : State → Prop} (hl : lv_has ls me.2.2.2.1 (cvL β lv)) (hP : va_P D vwCl (wsOf β cT h) H) (hS : va_S (fun q => base ≤ q) s.heap H locs)
    (K : ∀ (H' : Heap) (locs' : List Loc) (ls' : Array Slot), lv_has ls' me.2.2.2.1 (cvL β lv') → va_P D vwCl (wsOf β cT h2) H' → va_S (fun q => base ≤ q) s.heap H' locs' → W p l e R s m args below meth c H' locs' (h2.1 - n0) (szS h2.1 - szS n0) Q (F0 m pc' ls' (st'.map (cv β)))) :
    W p l e R s m args below meth c H locs (h.1 - n0) (szS h.1 - szS n0) Q (F0 m pc ls (st.map (cv β))) := by
  obtain ⟨hx, hb, hml, hown, hts, hG, hK, hsz, hmk, hini⟩ := C
  have hlen1 : len = 1 := Nat.eq_of_beq_eq_true hlen
  subst hlen1
  replace hs : ((match (generalizing := false) st with
    | .long y :: .long x :: r => some (pc + 1, lv, .long (x - y) :: r, h)
    | _ => none)) = some (pc', lv', st', h2) := hs
  split at hs
  next y x r => cases hs; exact lv_lsub hx hb hd (K _ _ _ hl hP hS)
  next => cases hs
set_option maxHeartbeats 1000000 in
theorem zs_lmul  {p : Program} {l : Launch} {e : Env} {R : Room} {s : State} {m : MethodId} {args : Array Value} {below : List Frame} {meth : Method} {c : Code} {D : va_G} {cT : CT} {β : Nat → Nat} {base : Nat} {me : ME} {Ts : List Cond} {n0 : Nat} {scr : Option (Nat × (Nat → Int32))} (C : Ctx p s m args meth c D cT base me Ts n0) (hsc : ScrOK scr β s base) (hβ : ∀ i, i < 4096 → β i = base + i) {pc len : Nat} {lv lv' : LV} {st st' : List Value} {h h2 : Hp} {pc' : Nat} (hs : zStep scr me.1 me.2.2.2.1 pc (isIni me) (.lmul) len lv st h = some (pc', lv', st', h2)) (hd : decode me.2.2.1 pc = .ok (.lmul, len)) (hlen : lenOK (.lmul) len = true) (hroom : rOKb me (pc, .lmul, len) = true) (hR : (me.2.2.2.2.2.2.1 ≤ R.frames ∧ me.2.2.2.2.2.2.2 ≤ R.locals) ∧ h2.1 - n0 ≤ R.cells ∧ szS h2.1 - szS n0 ≤ R.slots) (hn0 : n0 ≤ h.1) (h83 : h.1 ≤ 83) {H : Heap} {locs : List Loc} {ls : Array Slot} {Q : State → Prop} (hl : lv_has ls me.2.2.2.1 (cvL β lv)) (hP : va_P D vwCl (wsOf β cT h) H) (hS : va_S (fun q => base ≤ q) s.heap H locs)
    (K : ∀ (H' : Heap) (locs' : List Loc) (ls' : Array Slot), lv_has ls' me.2.2.2.1 (cvL β lv') → va_P D vwCl (wsOf β cT h2) H' → va_S (fun q => base ≤ q) s.heap H' locs' → W p l e R s m args below meth c H' locs' (h2.1 - n0) (szS h2.1 - szS n0) Q (F0 m pc' ls' (st'.map (cv β)))) :
    W p l e R s m args below meth c H locs (h.1 - n0) (szS h.1 - szS n0) Q (F0 m pc ls (st.map (cv β))) := by
  obtain ⟨hx, hb, hml, hown, hts, hG, hK, hsz, hmk, hini⟩ := C
  have hlen1 : len = 1 := Nat.eq_of_beq_eq_true hlen
  subst hlen1
  replace hs : ((match (generalizing := false) st with
    | .long y :: .long x :: r => some (pc + 1, lv, .long (x * y) :: r, h)
    | _ => none)) = some (pc', lv', st', h2) := hs
  split at hs
  next y x r => cases hs; exact lv_lmul hx hb hd (K _ _ _ hl hP hS)
  next => cases hs
set_option maxHeartbeats 1000000 in
theorem zs_land  {p : Program} {l : Launch} {e : Env} {R : Room} {s : State} {m : MethodId} {args : Array Value} {below : List Frame} {meth : Method} {c : Code} {D : va_G} {cT : CT} {β : Nat → Nat} {base : Nat} {me : ME} {Ts : List Cond} {n0 : Nat} {scr : Option (Nat × (Nat → Int32))} (C : Ctx p s m args meth c D cT base me Ts n0) (hsc : ScrOK scr β s base) (hβ : ∀ i, i < 4096 → β i = base + i) {pc len : Nat} {lv lv' : LV} {st st' : List Value} {h h2 : Hp} {pc' : Nat} (hs : zStep scr me.1 me.2.2.2.1 pc (isIni me) (.land) len lv st h = some (pc', lv', st', h2)) (hd : decode me.2.2.1 pc = .ok (.land, len)) (hlen : lenOK (.land) len = true) (hroom : rOKb me (pc, .land, len) = true) (hR : (me.2.2.2.2.2.2.1 ≤ R.frames ∧ me.2.2.2.2.2.2.2 ≤ R.locals) ∧ h2.1 - n0 ≤ R.cells ∧ szS h2.1 - szS n0 ≤ R.slots) (hn0 : n0 ≤ h.1) (h83 : h.1 ≤ 83) {H : Heap} {locs : List Loc} {ls : Array Slot} {Q : State → Prop} (hl : lv_has ls me.2.2.2.1 (cvL β lv)) (hP : va_P D vwCl (wsOf β cT h) H) (hS : va_S (fun q => base ≤ q) s.heap H locs)
    (K : ∀ (H' : Heap) (locs' : List Loc) (ls' : Array Slot), lv_has ls' me.2.2.2.1 (cvL β lv') → va_P D vwCl (wsOf β cT h2) H' → va_S (fun q => base ≤ q) s.heap H' locs' → W p l e R s m args below meth c H' locs' (h2.1 - n0) (szS h2.1 - szS n0) Q (F0 m pc' ls' (st'.map (cv β)))) :
    W p l e R s m args below meth c H locs (h.1 - n0) (szS h.1 - szS n0) Q (F0 m pc ls (st.map (cv β))) := by
  obtain ⟨hx, hb, hml, hown, hts, hG, hK, hsz, hmk, hini⟩ := C
  have hlen1 : len = 1 := Nat.eq_of_beq_eq_true hlen
  subst hlen1
  replace hs : ((match (generalizing := false) st with
    | .long y :: .long x :: r => some (pc + 1, lv, .long (x &&& y) :: r, h)
    | _ => none)) = some (pc', lv', st', h2) := hs
  split at hs
  next y x r => cases hs; exact lv_land hx hb hd (K _ _ _ hl hP hS)
  next => cases hs
set_option maxHeartbeats 1000000 in
theorem zs_lor  {p : Program} {l : Launch} {e : Env} {R : Room} {s : State} {m : MethodId} {args : Array Value} {below : List Frame} {meth : Method} {c : Code} {D : va_G} {cT : CT} {β : Nat → Nat} {base : Nat} {me : ME} {Ts : List Cond} {n0 : Nat} {scr : Option (Nat × (Nat → Int32))} (C : Ctx p s m args meth c D cT base me Ts n0) (hsc : ScrOK scr β s base) (hβ : ∀ i, i < 4096 → β i = base + i) {pc len : Nat} {lv lv' : LV} {st st' : List Value} {h h2 : Hp} {pc' : Nat} (hs : zStep scr me.1 me.2.2.2.1 pc (isIni me) (.lor) len lv st h = some (pc', lv', st', h2)) (hd : decode me.2.2.1 pc = .ok (.lor, len)) (hlen : lenOK (.lor) len = true) (hroom : rOKb me (pc, .lor, len) = true) (hR : (me.2.2.2.2.2.2.1 ≤ R.frames ∧ me.2.2.2.2.2.2.2 ≤ R.locals) ∧ h2.1 - n0 ≤ R.cells ∧ szS h2.1 - szS n0 ≤ R.slots) (hn0 : n0 ≤ h.1) (h83 : h.1 ≤ 83) {H : Heap} {locs : List Loc} {ls : Array Slot} {Q : State → Prop} (hl : lv_has ls me.2.2.2.1 (cvL β lv)) (hP : va_P D vwCl (wsOf β cT h) H) (hS : va_S (fun q => base ≤ q) s.heap H locs)
    (K : ∀ (H' : Heap) (locs' : List Loc) (ls' : Array Slot), lv_has ls' me.2.2.2.1 (cvL β lv') → va_P D vwCl (wsOf β cT h2) H' → va_S (fun q => base ≤ q) s.heap H' locs' → W p l e R s m args below meth c H' locs' (h2.1 - n0) (szS h2.1 - szS n0) Q (F0 m pc' ls' (st'.map (cv β)))) :
    W p l e R s m args below meth c H locs (h.1 - n0) (szS h.1 - szS n0) Q (F0 m pc ls (st.map (cv β))) := by
  obtain ⟨hx, hb, hml, hown, hts, hG, hK, hsz, hmk, hini⟩ := C
  have hlen1 : len = 1 := Nat.eq_of_beq_eq_true hlen
  subst hlen1
  replace hs : ((match (generalizing := false) st with
    | .long y :: .long x :: r => some (pc + 1, lv, .long (x ||| y) :: r, h)
    | _ => none)) = some (pc', lv', st', h2) := hs
  split at hs
  next y x r => cases hs; exact lv_lor hx hb hd (K _ _ _ hl hP hS)
  next => cases hs
set_option maxHeartbeats 1000000 in
theorem zs_iushr  {p : Program} {l : Launch} {e : Env} {R : Room} {s : State} {m : MethodId} {args : Array Value} {below : List Frame} {meth : Method} {c : Code} {D : va_G} {cT : CT} {β : Nat → Nat} {base : Nat} {me : ME} {Ts : List Cond} {n0 : Nat} {scr : Option (Nat × (Nat → Int32))} (C : Ctx p s m args meth c D cT base me Ts n0) (hsc : ScrOK scr β s base) (hβ : ∀ i, i < 4096 → β i = base + i) {pc len : Nat} {lv lv' : LV} {st st' : List Value} {h h2 : Hp} {pc' : Nat} (hs : zStep scr me.1 me.2.2.2.1 pc (isIni me) (.iushr) len lv st h = some (pc', lv', st', h2)) (hd : decode me.2.2.1 pc = .ok (.iushr, len)) (hlen : lenOK (.iushr) len = true) (hroom : rOKb me (pc, .iushr, len) = true) (hR : (me.2.2.2.2.2.2.1 ≤ R.frames ∧ me.2.2.2.2.2.2.2 ≤ R.locals) ∧ h2.1 - n0 ≤ R.cells ∧ szS h2.1 - szS n0 ≤ R.slots) (hn0 : n0 ≤ h.1) (h83 : h.1 ≤ 83) {H : Heap} {locs : List Loc} {ls : Array Slot} {Q : State → Prop} (hl : lv_has ls me.2.2.2.1 (cvL β lv)) (hP : va_P D vwCl (wsOf β cT h) H) (hS : va_S (fun q => base ≤ q) s.heap H locs)
    (K : ∀ (H' : Heap) (locs' : List Loc) (ls' : Array Slot), lv_has ls' me.2.2.2.1 (cvL β lv') → va_P D vwCl (wsOf β cT h2) H' → va_S (fun q => base ≤ q) s.heap H' locs' → W p l e R s m args below meth c H' locs' (h2.1 - n0) (szS h2.1 - szS n0) Q (F0 m pc' ls' (st'.map (cv β)))) :
    W p l e R s m args below meth c H locs (h.1 - n0) (szS h.1 - szS n0) Q (F0 m pc ls (st.map (cv β))) := by
  obtain ⟨hx, hb, hml, hown, hts, hG, hK, hsz, hmk, hini⟩ := C
  have hlen1 : len = 1 := Nat.eq_of_beq_eq_true hlen
  subst hlen1
  replace hs : ((match (generalizing := false) st with
    | .int y :: .int x :: r => some (pc + 1, lv, .int (x.toUInt32 >>> (y.toUInt32 &&& Int32.toUInt32 31)).toInt32 :: r, h)
    | _ => none)) = some (pc', lv', st', h2) := hs
  split at hs
  next y x r => cases hs; exact lv_iushr hx hb hd rfl (K _ _ _ hl hP hS)
  next => cases hs
set_option maxHeartbeats 1000000 in
theorem zs_lshl  {p : Program} {l : Launch} {e : Env} {R : Room} {s : State} {m : MethodId} {args : Array Value} {below : List Frame} {meth : Method} {c : Code} {D : va_G} {cT : CT} {β : Nat → Nat} {base : Nat} {me : ME} {Ts : List Cond} {n0 : Nat} {scr : Option (Nat × (Nat → Int32))} (C : Ctx p s m args meth c D cT base me Ts n0) (hsc : ScrOK scr β s base) (hβ : ∀ i, i < 4096 → β i = base + i) {pc len : Nat} {lv lv' : LV} {st st' : List Value} {h h2 : Hp} {pc' : Nat} (hs : zStep scr me.1 me.2.2.2.1 pc (isIni me) (.lshl) len lv st h = some (pc', lv', st', h2)) (hd : decode me.2.2.1 pc = .ok (.lshl, len)) (hlen : lenOK (.lshl) len = true) (hroom : rOKb me (pc, .lshl, len) = true) (hR : (me.2.2.2.2.2.2.1 ≤ R.frames ∧ me.2.2.2.2.2.2.2 ≤ R.locals) ∧ h2.1 - n0 ≤ R.cells ∧ szS h2.1 - szS n0 ≤ R.slots) (hn0 : n0 ≤ h.1) (h83 : h.1 ≤ 83) {H : Heap} {locs : List Loc} {ls : Array Slot} {Q : State → Prop} (hl : lv_has ls me.2.2.2.1 (cvL β lv)) (hP : va_P D vwCl (wsOf β cT h) H) (hS : va_S (fun q => base ≤ q) s.heap H locs)
    (K : ∀ (H' : Heap) (locs' : List Loc) (ls' : Array Slot), lv_has ls' me.2.2.2.1 (cvL β lv') → va_P D vwCl (wsOf β cT h2) H' → va_S (fun q => base ≤ q) s.heap H' locs' → W p l e R s m args below meth c H' locs' (h2.1 - n0) (szS h2.1 - szS n0) Q (F0 m pc' ls' (st'.map (cv β)))) :
    W p l e R s m args below meth c H locs (h.1 - n0) (szS h.1 - szS n0) Q (F0 m pc ls (st.map (cv β))) := by
  obtain ⟨hx, hb, hml, hown, hts, hG, hK, hsz, hmk, hini⟩ := C
  have hlen1 : len = 1 := Nat.eq_of_beq_eq_true hlen
  subst hlen1
  replace hs : ((match (generalizing := false) st with
    | .int y :: .long x :: r => some (pc + 1, lv, .long (x <<< (y.toInt64 &&& 63)) :: r, h)
    | _ => none)) = some (pc', lv', st', h2) := hs
  split at hs
  next y x r => cases hs; exact lv_lshl hx hb hd rfl (K _ _ _ hl hP hS)
  next => cases hs
set_option maxHeartbeats 1000000 in
theorem zs_lshr  {p : Program} {l : Launch} {e : Env} {R : Room} {s : State} {m : MethodId} {args : Array Value} {below : List Frame} {meth : Method} {c : Code} {D : va_G} {cT : CT} {β : Nat → Nat} {base : Nat} {me : ME} {Ts : List Cond} {n0 : Nat} {scr : Option (Nat × (Nat → Int32))} (C : Ctx p s m args meth c D cT base me Ts n0) (hsc : ScrOK scr β s base) (hβ : ∀ i, i < 4096 → β i = base + i) {pc len : Nat} {lv lv' : LV} {st st' : List Value} {h h2 : Hp} {pc' : Nat} (hs : zStep scr me.1 me.2.2.2.1 pc (isIni me) (.lshr) len lv st h = some (pc', lv', st', h2)) (hd : decode me.2.2.1 pc = .ok (.lshr, len)) (hlen : lenOK (.lshr) len = true) (hroom : rOKb me (pc, .lshr, len) = true) (hR : (me.2.2.2.2.2.2.1 ≤ R.frames ∧ me.2.2.2.2.2.2.2 ≤ R.locals) ∧ h2.1 - n0 ≤ R.cells ∧ szS h2.1 - szS n0 ≤ R.slots) (hn0 : n0 ≤ h.1) (h83 : h.1 ≤ 83) {H : Heap} {locs : List Loc} {ls : Array Slot} {Q : State → Prop} (hl : lv_has ls me.2.2.2.1 (cvL β lv)) (hP : va_P D vwCl (wsOf β cT h) H) (hS : va_S (fun q => base ≤ q) s.heap H locs)
    (K : ∀ (H' : Heap) (locs' : List Loc) (ls' : Array Slot), lv_has ls' me.2.2.2.1 (cvL β lv') → va_P D vwCl (wsOf β cT h2) H' → va_S (fun q => base ≤ q) s.heap H' locs' → W p l e R s m args below meth c H' locs' (h2.1 - n0) (szS h2.1 - szS n0) Q (F0 m pc' ls' (st'.map (cv β)))) :
    W p l e R s m args below meth c H locs (h.1 - n0) (szS h.1 - szS n0) Q (F0 m pc ls (st.map (cv β))) := by
  obtain ⟨hx, hb, hml, hown, hts, hG, hK, hsz, hmk, hini⟩ := C
  have hlen1 : len = 1 := Nat.eq_of_beq_eq_true hlen
  subst hlen1
  replace hs : ((match (generalizing := false) st with
    | .int y :: .long x :: r => some (pc + 1, lv, .long (x >>> (y.toInt64 &&& 63)) :: r, h)
    | _ => none)) = some (pc', lv', st', h2) := hs
  split at hs
  next y x r => cases hs; exact lv_lshr hx hb hd rfl (K _ _ _ hl hP hS)
  next => cases hs
set_option maxHeartbeats 1000000 in
theorem zs_lcmp  {p : Program} {l : Launch} {e : Env} {R : Room} {s : State} {m : MethodId} {args : Array Value} {below : List Frame} {meth : Method} {c : Code} {D : va_G} {cT : CT} {β : Nat → Nat} {base : Nat} {me : ME} {Ts : List Cond} {n0 : Nat} {scr : Option (Nat × (Nat → Int32))} (C : Ctx p s m args meth c D cT base me Ts n0) (hsc : ScrOK scr β s base) (hβ : ∀ i, i < 4096 → β i = base + i) {pc len : Nat} {lv lv' : LV} {st st' : List Value} {h h2 : Hp} {pc' : Nat} (hs : zStep scr me.1 me.2.2.2.1 pc (isIni me) (.lcmp) len lv st h = some (pc', lv', st', h2)) (hd : decode me.2.2.1 pc = .ok (.lcmp, len)) (hlen : lenOK (.lcmp) len = true) (hroom : rOKb me (pc, .lcmp, len) = true) (hR : (me.2.2.2.2.2.2.1 ≤ R.frames ∧ me.2.2.2.2.2.2.2 ≤ R.locals) ∧ h2.1 - n0 ≤ R.cells ∧ szS h2.1 - szS n0 ≤ R.slots) (hn0 : n0 ≤ h.1) (h83 : h.1 ≤ 83) {H : Heap} {locs : List Loc} {ls : Array Slot} {Q : State → Prop} (hl : lv_has ls me.2.2.2.1 (cvL β lv)) (hP : va_P D vwCl (wsOf β cT h) H) (hS : va_S (fun q => base ≤ q) s.heap H locs)
    (K : ∀ (H' : Heap) (locs' : List Loc) (ls' : Array Slot), lv_has ls' me.2.2.2.1 (cvL β lv') → va_P D vwCl (wsOf β cT h2) H' → va_S (fun q => base ≤ q) s.heap H' locs' → W p l e R s m args below meth c H' locs' (h2.1 - n0) (szS h2.1 - szS n0) Q (F0 m pc' ls' (st'.map (cv β)))) :
    W p l e R s m args below meth c H locs (h.1 - n0) (szS h.1 - szS n0) Q (F0 m pc ls (st.map (cv β))) := by
  obtain ⟨hx, hb, hml, hown, hts, hG, hK, hsz, hmk, hini⟩ := C
  have hlen1 : len = 1 := Nat.eq_of_beq_eq_true hlen
  subst hlen1
  replace hs : ((match (generalizing := false) st with
    | .long y :: .long x :: r => some (pc + 1, lv, .int (lg_cmp x y) :: r, h)
    | _ => none)) = some (pc', lv', st', h2) := hs
  split at hs
  next y x r => cases hs; exact W.lcmp hx hb hd (K _ _ _ hl hP hS)
  next => cases hs
set_option maxHeartbeats 1000000 in
theorem zs_ineg  {p : Program} {l : Launch} {e : Env} {R : Room} {s : State} {m : MethodId} {args : Array Value} {below : List Frame} {meth : Method} {c : Code} {D : va_G} {cT : CT} {β : Nat → Nat} {base : Nat} {me : ME} {Ts : List Cond} {n0 : Nat} {scr : Option (Nat × (Nat → Int32))} (C : Ctx p s m args meth c D cT base me Ts n0) (hsc : ScrOK scr β s base) (hβ : ∀ i, i < 4096 → β i = base + i) {pc len : Nat} {lv lv' : LV} {st st' : List Value} {h h2 : Hp} {pc' : Nat} (hs : zStep scr me.1 me.2.2.2.1 pc (isIni me) (.ineg) len lv st h = some (pc', lv', st', h2)) (hd : decode me.2.2.1 pc = .ok (.ineg, len)) (hlen : lenOK (.ineg) len = true) (hroom : rOKb me (pc, .ineg, len) = true) (hR : (me.2.2.2.2.2.2.1 ≤ R.frames ∧ me.2.2.2.2.2.2.2 ≤ R.locals) ∧ h2.1 - n0 ≤ R.cells ∧ szS h2.1 - szS n0 ≤ R.slots) (hn0 : n0 ≤ h.1) (h83 : h.1 ≤ 83) {H : Heap} {locs : List Loc} {ls : Array Slot} {Q : State → Prop} (hl : lv_has ls me.2.2.2.1 (cvL β lv)) (hP : va_P D vwCl (wsOf β cT h) H) (hS : va_S (fun q => base ≤ q) s.heap H locs)
    (K : ∀ (H' : Heap) (locs' : List Loc) (ls' : Array Slot), lv_has ls' me.2.2.2.1 (cvL β lv') → va_P D vwCl (wsOf β cT h2) H' → va_S (fun q => base ≤ q) s.heap H' locs' → W p l e R s m args below meth c H' locs' (h2.1 - n0) (szS h2.1 - szS n0) Q (F0 m pc' ls' (st'.map (cv β)))) :
    W p l e R s m args below meth c H locs (h.1 - n0) (szS h.1 - szS n0) Q (F0 m pc ls (st.map (cv β))) := by
  obtain ⟨hx, hb, hml, hown, hts, hG, hK, hsz, hmk, hini⟩ := C
  have hlen1 : len = 1 := Nat.eq_of_beq_eq_true hlen
  subst hlen1
  replace hs : ((match (generalizing := false) st with
    | .int x :: r => some (pc + 1, lv, .int (-x) :: r, h)
    | _ => none)) = some (pc', lv', st', h2) := hs
  split at hs
  next x r => cases hs; exact lv_ineg hx hb hd (K _ _ _ hl hP hS)
  next => cases hs
set_option maxHeartbeats 1000000 in
theorem zs_i2l  {p : Program} {l : Launch} {e : Env} {R : Room} {s : State} {m : MethodId} {args : Array Value} {below : List Frame} {meth : Method} {c : Code} {D : va_G} {cT : CT} {β : Nat → Nat} {base : Nat} {me : ME} {Ts : List Cond} {n0 : Nat} {scr : Option (Nat × (Nat → Int32))} (C : Ctx p s m args meth c D cT base me Ts n0) (hsc : ScrOK scr β s base) (hβ : ∀ i, i < 4096 → β i = base + i) {pc len : Nat} {lv lv' : LV} {st st' : List Value} {h h2 : Hp} {pc' : Nat} (hs : zStep scr me.1 me.2.2.2.1 pc (isIni me) (.i2l) len lv st h = some (pc', lv', st', h2)) (hd : decode me.2.2.1 pc = .ok (.i2l, len)) (hlen : lenOK (.i2l) len = true) (hroom : rOKb me (pc, .i2l, len) = true) (hR : (me.2.2.2.2.2.2.1 ≤ R.frames ∧ me.2.2.2.2.2.2.2 ≤ R.locals) ∧ h2.1 - n0 ≤ R.cells ∧ szS h2.1 - szS n0 ≤ R.slots) (hn0 : n0 ≤ h.1) (h83 : h.1 ≤ 83) {H : Heap} {locs : List Loc} {ls : Array Slot} {Q : State → Prop} (hl : lv_has ls me.2.2.2.1 (cvL β lv)) (hP : va_P D vwCl (wsOf β cT h) H) (hS : va_S (fun q => base ≤ q) s.heap H locs)
    (K : ∀ (H' : Heap) (locs' : List Loc) (ls' : Array Slot), lv_has ls' me.2.2.2.1 (cvL β lv') → va_P D vwCl (wsOf β cT h2) H' → va_S (fun q => base ≤ q) s.heap H' locs' → W p l e R s m args below meth c H' locs' (h2.1 - n0) (szS h2.1 - szS n0) Q (F0 m pc' ls' (st'.map (cv β)))) :
    W p l e R s m args below meth c H locs (h.1 - n0) (szS h.1 - szS n0) Q (F0 m pc ls (st.map (cv β))) := by
  obtain ⟨hx, hb, hml, hown, hts, hG, hK, hsz, hmk, hini⟩ := C
  have hlen1 : len = 1 := Nat.eq_of_beq_eq_true hlen
  subst hlen1
  replace hs : ((match (generalizing := false) st with
    | .int x :: r => some (pc + 1, lv, .long x.toInt64 :: r, h)
    | _ => none)) = some (pc', lv', st', h2) := hs
  split at hs
  next x r => cases hs; exact lv_i2l hx hb hd rfl (K _ _ _ hl hP hS)
  next => cases hs
set_option maxHeartbeats 1000000 in
theorem zs_i2b  {p : Program} {l : Launch} {e : Env} {R : Room} {s : State} {m : MethodId} {args : Array Value} {below : List Frame} {meth : Method} {c : Code} {D : va_G} {cT : CT} {β : Nat → Nat} {base : Nat} {me : ME} {Ts : List Cond} {n0 : Nat} {scr : Option (Nat × (Nat → Int32))} (C : Ctx p s m args meth c D cT base me Ts n0) (hsc : ScrOK scr β s base) (hβ : ∀ i, i < 4096 → β i = base + i) {pc len : Nat} {lv lv' : LV} {st st' : List Value} {h h2 : Hp} {pc' : Nat} (hs : zStep scr me.1 me.2.2.2.1 pc (isIni me) (.i2b) len lv st h = some (pc', lv', st', h2)) (hd : decode me.2.2.1 pc = .ok (.i2b, len)) (hlen : lenOK (.i2b) len = true) (hroom : rOKb me (pc, .i2b, len) = true) (hR : (me.2.2.2.2.2.2.1 ≤ R.frames ∧ me.2.2.2.2.2.2.2 ≤ R.locals) ∧ h2.1 - n0 ≤ R.cells ∧ szS h2.1 - szS n0 ≤ R.slots) (hn0 : n0 ≤ h.1) (h83 : h.1 ≤ 83) {H : Heap} {locs : List Loc} {ls : Array Slot} {Q : State → Prop} (hl : lv_has ls me.2.2.2.1 (cvL β lv)) (hP : va_P D vwCl (wsOf β cT h) H) (hS : va_S (fun q => base ≤ q) s.heap H locs)
    (K : ∀ (H' : Heap) (locs' : List Loc) (ls' : Array Slot), lv_has ls' me.2.2.2.1 (cvL β lv') → va_P D vwCl (wsOf β cT h2) H' → va_S (fun q => base ≤ q) s.heap H' locs' → W p l e R s m args below meth c H' locs' (h2.1 - n0) (szS h2.1 - szS n0) Q (F0 m pc' ls' (st'.map (cv β)))) :
    W p l e R s m args below meth c H locs (h.1 - n0) (szS h.1 - szS n0) Q (F0 m pc ls (st.map (cv β))) := by
  obtain ⟨hx, hb, hml, hown, hts, hG, hK, hsz, hmk, hini⟩ := C
  have hlen1 : len = 1 := Nat.eq_of_beq_eq_true hlen
  subst hlen1
  replace hs : ((match (generalizing := false) st with
    | .int x :: r => some (pc + 1, lv, .int x.toInt8.toInt32 :: r, h)
    | _ => none)) = some (pc', lv', st', h2) := hs
  split at hs
  next x r => cases hs; exact lv_i2b hx hb hd rfl (K _ _ _ hl hP hS)
  next => cases hs
set_option maxHeartbeats 1000000 in
theorem zs_l2i  {p : Program} {l : Launch} {e : Env} {R : Room} {s : State} {m : MethodId} {args : Array Value} {below : List Frame} {meth : Method} {c : Code} {D : va_G} {cT : CT} {β : Nat → Nat} {base : Nat} {me : ME} {Ts : List Cond} {n0 : Nat} {scr : Option (Nat × (Nat → Int32))} (C : Ctx p s m args meth c D cT base me Ts n0) (hsc : ScrOK scr β s base) (hβ : ∀ i, i < 4096 → β i = base + i) {pc len : Nat} {lv lv' : LV} {st st' : List Value} {h h2 : Hp} {pc' : Nat} (hs : zStep scr me.1 me.2.2.2.1 pc (isIni me) (.l2i) len lv st h = some (pc', lv', st', h2)) (hd : decode me.2.2.1 pc = .ok (.l2i, len)) (hlen : lenOK (.l2i) len = true) (hroom : rOKb me (pc, .l2i, len) = true) (hR : (me.2.2.2.2.2.2.1 ≤ R.frames ∧ me.2.2.2.2.2.2.2 ≤ R.locals) ∧ h2.1 - n0 ≤ R.cells ∧ szS h2.1 - szS n0 ≤ R.slots) (hn0 : n0 ≤ h.1) (h83 : h.1 ≤ 83) {H : Heap} {locs : List Loc} {ls : Array Slot} {Q : State → Prop} (hl : lv_has ls me.2.2.2.1 (cvL β lv)) (hP : va_P D vwCl (wsOf β cT h) H) (hS : va_S (fun q => base ≤ q) s.heap H locs)
    (K : ∀ (H' : Heap) (locs' : List Loc) (ls' : Array Slot), lv_has ls' me.2.2.2.1 (cvL β lv') → va_P D vwCl (wsOf β cT h2) H' → va_S (fun q => base ≤ q) s.heap H' locs' → W p l e R s m args below meth c H' locs' (h2.1 - n0) (szS h2.1 - szS n0) Q (F0 m pc' ls' (st'.map (cv β)))) :
    W p l e R s m args below meth c H locs (h.1 - n0) (szS h.1 - szS n0) Q (F0 m pc ls (st.map (cv β))) := by
  obtain ⟨hx, hb, hml, hown, hts, hG, hK, hsz, hmk, hini⟩ := C
  have hlen1 : len = 1 := Nat.eq_of_beq_eq_true hlen
  subst hlen1
  replace hs : ((match (generalizing := false) st with
    | .long x :: r => some (pc + 1, lv, .int x.toInt32 :: r, h)
    | _ => none)) = some (pc', lv', st', h2) := hs
  split at hs
  next x r => cases hs; exact lv_l2i hx hb hd rfl (K _ _ _ hl hP hS)
  next => cases hs
set_option maxHeartbeats 1000000 in
theorem zs_idiv  {p : Program} {l : Launch} {e : Env} {R : Room} {s : State} {m : MethodId} {args : Array Value} {below : List Frame} {meth : Method} {c : Code} {D : va_G} {cT : CT} {β : Nat → Nat} {base : Nat} {me : ME} {Ts : List Cond} {n0 : Nat} {scr : Option (Nat × (Nat → Int32))} (C : Ctx p s m args meth c D cT base me Ts n0) (hsc : ScrOK scr β s base) (hβ : ∀ i, i < 4096 → β i = base + i) {pc len : Nat} {lv lv' : LV} {st st' : List Value} {h h2 : Hp} {pc' : Nat} (hs : zStep scr me.1 me.2.2.2.1 pc (isIni me) (.idiv) len lv st h = some (pc', lv', st', h2)) (hd : decode me.2.2.1 pc = .ok (.idiv, len)) (hlen : lenOK (.idiv) len = true) (hroom : rOKb me (pc, .idiv, len) = true) (hR : (me.2.2.2.2.2.2.1 ≤ R.frames ∧ me.2.2.2.2.2.2.2 ≤ R.locals) ∧ h2.1 - n0 ≤ R.cells ∧ szS h2.1 - szS n0 ≤ R.slots) (hn0 : n0 ≤ h.1) (h83 : h.1 ≤ 83) {H : Heap} {locs : List Loc} {ls : Array Slot} {Q : State → Prop} (hl : lv_has ls me.2.2.2.1 (cvL β lv)) (hP : va_P D vwCl (wsOf β cT h) H) (hS : va_S (fun q => base ≤ q) s.heap H locs)
    (K : ∀ (H' : Heap) (locs' : List Loc) (ls' : Array Slot), lv_has ls' me.2.2.2.1 (cvL β lv') → va_P D vwCl (wsOf β cT h2) H' → va_S (fun q => base ≤ q) s.heap H' locs' → W p l e R s m args below meth c H' locs' (h2.1 - n0) (szS h2.1 - szS n0) Q (F0 m pc' ls' (st'.map (cv β)))) :
    W p l e R s m args below meth c H locs (h.1 - n0) (szS h.1 - szS n0) Q (F0 m pc ls (st.map (cv β))) := by
  obtain ⟨hx, hb, hml, hown, hts, hG, hK, hsz, hmk, hini⟩ := C
  have hlen1 : len = 1 := Nat.eq_of_beq_eq_true hlen
  subst hlen1
  replace hs : ((match (generalizing := false) st with
    | .int y :: .int x :: r => if y = 0 then none else some (pc + 1, lv, .int (x / y) :: r, h)
    | _ => none)) = some (pc', lv', st', h2) := hs
  split at hs
  next y x r =>
    split at hs
    next => cases hs
    next hne => cases hs; exact lv_idiv hx hb hd hne (K _ _ _ hl hP hS)
  next => cases hs
set_option maxHeartbeats 1000000 in
theorem zs_irem  {p : Program} {l : Launch} {e : Env} {R : Room} {s : State} {m : MethodId} {args : Array Value} {below : List Frame} {meth : Method} {c : Code} {D : va_G} {cT : CT} {β : Nat → Nat} {base : Nat} {me : ME} {Ts : List Cond} {n0 : Nat} {scr : Option (Nat × (Nat → Int32))} (C : Ctx p s m args meth c D cT base me Ts n0) (hsc : ScrOK scr β s base) (hβ : ∀ i, i < 4096 → β i = base + i) {pc len : Nat} {lv lv' : LV} {st st' : List Value} {h h2 : Hp} {pc' : Nat} (hs : zStep scr me.1 me.2.2.2.1 pc (isIni me) (.irem) len lv st h = some (pc', lv', st', h2)) (hd : decode me.2.2.1 pc = .ok (.irem, len)) (hlen : lenOK (.irem) len = true) (hroom : rOKb me (pc, .irem, len) = true) (hR : (me.2.2.2.2.2.2.1 ≤ R.frames ∧ me.2.2.2.2.2.2.2 ≤ R.locals) ∧ h2.1 - n0 ≤ R.cells ∧ szS h2.1 - szS n0 ≤ R.slots) (hn0 : n0 ≤ h.1) (h83 : h.1 ≤ 83) {H : Heap} {locs : List Loc} {ls : Array Slot} {Q : State → Prop} (hl : lv_has ls me.2.2.2.1 (cvL β lv)) (hP : va_P D vwCl (wsOf β cT h) H) (hS : va_S (fun q => base ≤ q) s.heap H locs)
    (K : ∀ (H' : Heap) (locs' : List Loc) (ls' : Array Slot), lv_has ls' me.2.2.2.1 (cvL β lv') → va_P D vwCl (wsOf β cT h2) H' → va_S (fun q => base ≤ q) s.heap H' locs' → W p l e R s m args below meth c H' locs' (h2.1 - n0) (szS h2.1 - szS n0) Q (F0 m pc' ls' (st'.map (cv β)))) :
    W p l e R s m args below meth c H locs (h.1 - n0) (szS h.1 - szS n0) Q (F0 m pc ls (st.map (cv β))) := by
  obtain ⟨hx, hb, hml, hown, hts, hG, hK, hsz, hmk, hini⟩ := C
  have hlen1 : len = 1 := Nat.eq_of_beq_eq_true hlen
  subst hlen1
  replace hs : ((match (generalizing := false) st with
    | .int y :: .int x :: r => if y = 0 then none else some (pc + 1, lv, .int (x - x / y * y) :: r, h)
    | _ => none)) = some (pc', lv', st', h2) := hs
  split at hs
  next y x r =>
    split at hs
    next => cases hs
    next hne => cases hs; exact lv_irem hx hb hd hne (K _ _ _ hl hP hS)
  next => cases hs
set_option maxHeartbeats 1000000 in
theorem zs_ldiv  {p : Program} {l : Launch} {e : Env} {R : Room} {s : State} {m : MethodId} {args : Array Value} {below : List Frame} {meth : Method} {c : Code} {D : va_G} {cT : CT} {β : Nat → Nat} {base : Nat} {me : ME} {Ts : List Cond} {n0 : Nat} {scr : Option (Nat × (Nat → Int32))} (C : Ctx p s m args meth c D cT base me Ts n0) (hsc : ScrOK scr β s base) (hβ : ∀ i, i < 4096 → β i = base + i) {pc len : Nat} {lv lv' : LV} {st st' : List Value} {h h2 : Hp} {pc' : Nat} (hs : zStep scr me.1 me.2.2.2.1 pc (isIni me) (.ldiv) len lv st h = some (pc', lv', st', h2)) (hd : decode me.2.2.1 pc = .ok (.ldiv, len)) (hlen : lenOK (.ldiv) len = true) (hroom : rOKb me (pc, .ldiv, len) = true) (hR : (me.2.2.2.2.2.2.1 ≤ R.frames ∧ me.2.2.2.2.2.2.2 ≤ R.locals) ∧ h2.1 - n0 ≤ R.cells ∧ szS h2.1 - szS n0 ≤ R.slots) (hn0 : n0 ≤ h.1) (h83 : h.1 ≤ 83) {H : Heap} {locs : List Loc} {ls : Array Slot} {Q : State → Prop} (hl : lv_has ls me.2.2.2.1 (cvL β lv)) (hP : va_P D vwCl (wsOf β cT h) H) (hS : va_S (fun q => base ≤ q) s.heap H locs)
    (K : ∀ (H' : Heap) (locs' : List Loc) (ls' : Array Slot), lv_has ls' me.2.2.2.1 (cvL β lv') → va_P D vwCl (wsOf β cT h2) H' → va_S (fun q => base ≤ q) s.heap H' locs' → W p l e R s m args below meth c H' locs' (h2.1 - n0) (szS h2.1 - szS n0) Q (F0 m pc' ls' (st'.map (cv β)))) :
    W p l e R s m args below meth c H locs (h.1 - n0) (szS h.1 - szS n0) Q (F0 m pc ls (st.map (cv β))) := by
  obtain ⟨hx, hb, hml, hown, hts, hG, hK, hsz, hmk, hini⟩ := C
  have hlen1 : len = 1 := Nat.eq_of_beq_eq_true hlen
  subst hlen1
  replace hs : ((match (generalizing := false) st with
    | .long y :: .long x :: r => if y = 0 then none else some (pc + 1, lv, .long (x / y) :: r, h)
    | _ => none)) = some (pc', lv', st', h2) := hs
  split at hs
  next y x r =>
    split at hs
    next => cases hs
    next hne => cases hs; exact lv_ldiv hx hb hd hne (K _ _ _ hl hP hS)
  next => cases hs
set_option maxHeartbeats 1000000 in
theorem zs_lrem  {p : Program} {l : Launch} {e : Env} {R : Room} {s : State} {m : MethodId} {args : Array Value} {below : List Frame} {meth : Method} {c : Code} {D : va_G} {cT : CT} {β : Nat → Nat} {base : Nat} {me : ME} {Ts : List Cond} {n0 : Nat} {scr : Option (Nat × (Nat → Int32))} (C : Ctx p s m args meth c D cT base me Ts n0) (hsc : ScrOK scr β s base) (hβ : ∀ i, i < 4096 → β i = base + i) {pc len : Nat} {lv lv' : LV} {st st' : List Value} {h h2 : Hp} {pc' : Nat} (hs : zStep scr me.1 me.2.2.2.1 pc (isIni me) (.lrem) len lv st h = some (pc', lv', st', h2)) (hd : decode me.2.2.1 pc = .ok (.lrem, len)) (hlen : lenOK (.lrem) len = true) (hroom : rOKb me (pc, .lrem, len) = true) (hR : (me.2.2.2.2.2.2.1 ≤ R.frames ∧ me.2.2.2.2.2.2.2 ≤ R.locals) ∧ h2.1 - n0 ≤ R.cells ∧ szS h2.1 - szS n0 ≤ R.slots) (hn0 : n0 ≤ h.1) (h83 : h.1 ≤ 83) {H : Heap} {locs : List Loc} {ls : Array Slot} {Q : State → Prop} (hl : lv_has ls me.2.2.2.1 (cvL β lv)) (hP : va_P D vwCl (wsOf β cT h) H) (hS : va_S (fun q => base ≤ q) s.heap H locs)
    (K : ∀ (H' : Heap) (locs' : List Loc) (ls' : Array Slot), lv_has ls' me.2.2.2.1 (cvL β lv') → va_P D vwCl (wsOf β cT h2) H' → va_S (fun q => base ≤ q) s.heap H' locs' → W p l e R s m args below meth c H' locs' (h2.1 - n0) (szS h2.1 - szS n0) Q (F0 m pc' ls' (st'.map (cv β)))) :
    W p l e R s m args below meth c H locs (h.1 - n0) (szS h.1 - szS n0) Q (F0 m pc ls (st.map (cv β))) := by
  obtain ⟨hx, hb, hml, hown, hts, hG, hK, hsz, hmk, hini⟩ := C
  have hlen1 : len = 1 := Nat.eq_of_beq_eq_true hlen
  subst hlen1
  replace hs : ((match (generalizing := false) st with
    | .long y :: .long x :: r => if y = 0 then none else some (pc + 1, lv, .long (x - x / y * y) :: r, h)
    | _ => none)) = some (pc', lv', st', h2) := hs
  split at hs
  next y x r =>
    split at hs
    next => cases hs
    next hne => cases hs; exact lv_lrem hx hb hd hne (K _ _ _ hl hP hS)
  next => cases hs
set_option maxHeartbeats 1000000 in
theorem zs_goto (off : Int) {p : Program} {l : Launch} {e : Env} {R : Room} {s : State} {m : MethodId} {args : Array Value} {below : List Frame} {meth : Method} {c : Code} {D : va_G} {cT : CT} {β : Nat → Nat} {base : Nat} {me : ME} {Ts : List Cond} {n0 : Nat} {scr : Option (Nat × (Nat → Int32))} (C : Ctx p s m args meth c D cT base me Ts n0) (hsc : ScrOK scr β s base) (hβ : ∀ i, i < 4096 → β i = base + i) {pc len : Nat} {lv lv' : LV} {st st' : List Value} {h h2 : Hp} {pc' : Nat} (hs : zStep scr me.1 me.2.2.2.1 pc (isIni me) (.goto off) len lv st h = some (pc', lv', st', h2)) (hd : decode me.2.2.1 pc = .ok (.goto off, len)) (hlen : lenOK (.goto off) len = true) (hroom : rOKb me (pc, .goto off, len) = true) (hR : (me.2.2.2.2.2.2.1 ≤ R.frames ∧ me.2.2.2.2.2.2.2 ≤ R.locals) ∧ h2.1 - n0 ≤ R.cells ∧ szS h2.1 - szS n0 ≤ R.slots) (hn0 : n0 ≤ h.1) (h83 : h.1 ≤ 83) {H : Heap} {locs : List Loc} {ls : Array Slot} {Q : State → Prop} (hl : lv_has ls me.2.2.2.1 (cvL β lv)) (hP : va_P D vwCl (wsOf β cT h) H) (hS : va_S (fun q => base ≤ q) s.heap H locs)
    (K : ∀ (H' : Heap) (locs' : List Loc) (ls' : Array Slot), lv_has ls' me.2.2.2.1 (cvL β lv') → va_P D vwCl (wsOf β cT h2) H' → va_S (fun q => base ≤ q) s.heap H' locs' → W p l e R s m args below meth c H' locs' (h2.1 - n0) (szS h2.1 - szS n0) Q (F0 m pc' ls' (st'.map (cv β)))) :
    W p l e R s m args below meth c H locs (h.1 - n0) (szS h.1 - szS n0) Q (F0 m pc ls (st.map (cv β))) := by
  obtain ⟨hx, hb, hml, hown, hts, hG, hK, hsz, hmk, hini⟩ := C
  have hlen1 : len = 3 := Nat.eq_of_beq_eq_true hlen
  subst hlen1
  replace hs : ((match (generalizing := false) jmp pc off with
    | some t => some (t, lv, st, h)
    | none => none)) = some (pc', lv', st', h2) := hs
  split at hs
  next t ht => cases hs; exact lv_goto hx hb hd (jmp_spec ht) (K _ _ _ hl hP hS)
  next => cases hs
set_option maxHeartbeats 1000000 in
theorem zs_if_icmp (c0 : ClassFile.Cond) (off : Int) {p : Program} {l : Launch} {e : Env} {R : Room} {s : State} {m : MethodId} {args : Array Value} {below : List Frame} {meth : Method} {c : Code} {D : va_G} {cT : CT} {β : Nat → Nat} {base : Nat} {me : ME} {Ts : List Cond} {n0 : Nat} {scr : Option (Nat × (Nat → Int32))} (C : Ctx p s m args meth c D cT base me Ts n0) (hsc : ScrOK scr β s base) (hβ : ∀ i, i < 4096 → β i = base + i) {pc len : Nat} {lv lv' : LV} {st st' : List Value} {h h2 : Hp} {pc' : Nat} (hs : zStep scr me.1 me.2.2.2.1 pc (isIni me) (.if_icmp c0 off) len lv st h = some (pc', lv', st', h2)) (hd : decode me.2.2.1 pc = .ok (.if_icmp c0 off, len)) (hlen : lenOK (.if_icmp c0 off) len = true) (hroom : rOKb me (pc, .if_icmp c0 off, len) = true) (hR : (me.2.2.2.2.2.2.1 ≤ R.frames ∧ me.2.2.2.2.2.2.2 ≤ R.locals) ∧ h2.1 - n0 ≤ R.cells ∧ szS h2.1 - szS n0 ≤ R.slots) (hn0 : n0 ≤ h.1) (h83 : h.1 ≤ 83) {H : Heap} {locs : List Loc} {ls : Array Slot} {Q : State → Prop} (hl : lv_has ls me.2.2.2.1 (cvL β lv)) (hP : va_P D vwCl (wsOf β cT h) H) (hS : va_S (fun q => base ≤ q) s.heap H locs)
    (K : ∀ (H' : Heap) (locs' : List Loc) (ls' : Array Slot), lv_has ls' me.2.2.2.1 (cvL β lv') → va_P D vwCl (wsOf β cT h2) H' → va_S (fun q => base ≤ q) s.heap H' locs' → W p l e R s m args below meth c H' locs' (h2.1 - n0) (szS h2.1 - szS n0) Q (F0 m pc' ls' (st'.map (cv β)))) :
    W p l e R s m args below meth c H locs (h.1 - n0) (szS h.1 - szS n0) Q (F0 m pc ls (st.map (cv β))) := by
  obtain ⟨hx, hb, hml, hown, hts, hG, hK, hsz, hmk, hini⟩ := C
  have hlen1 : len = 3 := Nat.eq_of_beq_eq_true hlen
  subst hlen1
  replace hs : ((match (generalizing := false) st with
    | .int y :: .int x :: r => (match (generalizing := false) jmp pc off with
      | some t => if cnd c0 x y = true then some (t, lv, r, h) else some (pc + 3, lv, r, h)
      | none => none)
    | _ => none)) = some (pc', lv', st', h2) := hs
  split at hs
  next y x r =>
    split at hs
    next t ht =>
      cases c0 with
      | eq =>
        refine lv_icmp_eq (tgt := t) hx hb hd (jmp_spec ht) (fun hc => ?_) (fun hc => ?_)
        · rw [if_pos (by simpa [cnd] using hc)] at hs; cases hs; exact K _ _ _ hl hP hS
        · rw [if_neg (by simpa [cnd] using hc)] at hs; cases hs; exact K _ _ _ hl hP hS
      | ne =>
        refine lv_icmp_ne (tgt := t) hx hb hd (jmp_spec ht) (fun hc => ?_) (fun hc => ?_)
        · rw [if_pos (by simpa [cnd] using hc)] at hs; cases hs; exact K _ _ _ hl hP hS
        · rw [if_neg (by simpa [cnd] using hc)] at hs; cases hs; exact K _ _ _ hl hP hS
      | lt =>
        refine lv_icmp_lt (tgt := t) hx hb hd (jmp_spec ht) (fun hc => ?_) (fun hc => ?_)
        · rw [if_pos (by simpa [cnd] using hc)] at hs; cases hs; exact K _ _ _ hl hP hS
        · rw [if_neg (by simpa [cnd] using hc)] at hs; cases hs; exact K _ _ _ hl hP hS
      | ge =>
        refine lv_icmp_ge (tgt := t) hx hb hd (jmp_spec ht) (fun hc => ?_) (fun hc => ?_)
        · rw [if_pos (by simpa [cnd] using hc)] at hs; cases hs; exact K _ _ _ hl hP hS
        · rw [if_neg (by simpa [cnd] using hc)] at hs; cases hs; exact K _ _ _ hl hP hS
      | gt =>
        refine lv_icmp_gt (tgt := t) hx hb hd (jmp_spec ht) (fun hc => ?_) (fun hc => ?_)
        · rw [if_pos (by simpa [cnd] using hc)] at hs; cases hs; exact K _ _ _ hl hP hS
        · rw [if_neg (by simpa [cnd] using hc)] at hs; cases hs; exact K _ _ _ hl hP hS
      | le =>
        refine lv_icmp_le (tgt := t) hx hb hd (jmp_spec ht) (fun hc => ?_) (fun hc => ?_)
        · rw [if_pos (by simpa [cnd] using hc)] at hs; cases hs; exact K _ _ _ hl hP hS
        · rw [if_neg (by simpa [cnd] using hc)] at hs; cases hs; exact K _ _ _ hl hP hS
    next => cases hs
  next => cases hs
set_option maxHeartbeats 1000000 in
theorem zs_ifCond (c0 : ClassFile.Cond) (off : Int) {p : Program} {l : Launch} {e : Env} {R : Room} {s : State} {m : MethodId} {args : Array Value} {below : List Frame} {meth : Method} {c : Code} {D : va_G} {cT : CT} {β : Nat → Nat} {base : Nat} {me : ME} {Ts : List Cond} {n0 : Nat} {scr : Option (Nat × (Nat → Int32))} (C : Ctx p s m args meth c D cT base me Ts n0) (hsc : ScrOK scr β s base) (hβ : ∀ i, i < 4096 → β i = base + i) {pc len : Nat} {lv lv' : LV} {st st' : List Value} {h h2 : Hp} {pc' : Nat} (hs : zStep scr me.1 me.2.2.2.1 pc (isIni me) (.ifCond c0 off) len lv st h = some (pc', lv', st', h2)) (hd : decode me.2.2.1 pc = .ok (.ifCond c0 off, len)) (hlen : lenOK (.ifCond c0 off) len = true) (hroom : rOKb me (pc, .ifCond c0 off, len) = true) (hR : (me.2.2.2.2.2.2.1 ≤ R.frames ∧ me.2.2.2.2.2.2.2 ≤ R.locals) ∧ h2.1 - n0 ≤ R.cells ∧ szS h2.1 - szS n0 ≤ R.slots) (hn0 : n0 ≤ h.1) (h83 : h.1 ≤ 83) {H : Heap} {locs : List Loc} {ls : Array Slot} {Q : State → Prop} (hl : lv_has ls me.2.2.2.1 (cvL β lv)) (hP : va_P D vwCl (wsOf β cT h) H) (hS : va_S (fun q => base ≤ q) s.heap H locs)
    (K : ∀ (H' : Heap) (locs' : List Loc) (ls' : Array Slot), lv_has ls' me.2.2.2.1 (cvL β lv') → va_P D vwCl (wsOf β cT h2) H' → va_S (fun q => base ≤ q) s.heap H' locs' → W p l e R s m args below meth c H' locs' (h2.1 - n0) (szS h2.1 - szS n0) Q (F0 m pc' ls' (st'.map (cv β)))) :
    W p l e R s m args below meth c H locs (h.1 - n0) (szS h.1 - szS n0) Q (F0 m pc ls (st.map (cv β))) := by
  obtain ⟨hx, hb, hml, hown, hts, hG, hK, hsz, hmk, hini⟩ := C
  have hlen1 : len = 3 := Nat.eq_of_beq_eq_true hlen
  subst hlen1
  replace hs : ((match (generalizing := false) st with
    | .int x :: r => (match (generalizing := false) jmp pc off with
      | some t => if cnd c0 x 0 = true then some (t, lv, r, h) else some (pc + 3, lv, r, h)
      | none => none)
    | _ => none)) = some (pc', lv', st', h2) := hs
  split at hs
  next x r =>
    split at hs
    next t ht =>
      cases c0 with
      | eq =>
        refine lv_if_eq (tgt := t) hx hb hd (jmp_spec ht) (fun hc => ?_) (fun hc => ?_)
        · rw [if_pos (by simpa [cnd] using hc)] at hs; cases hs; exact K _ _ _ hl hP hS
        · rw [if_neg (by simpa [cnd] using hc)] at hs; cases hs; exact K _ _ _ hl hP hS
      | ne =>
        refine lv_if_ne (tgt := t) hx hb hd (jmp_spec ht) (fun hc => ?_) (fun hc => ?_)
        · rw [if_pos (by simpa [cnd] using hc)] at hs; cases hs; exact K _ _ _ hl hP hS
        · rw [if_neg (by simpa [cnd] using hc)] at hs; cases hs; exact K _ _ _ hl hP hS
      | lt =>
        refine lv_if_lt (tgt := t) hx hb hd (jmp_spec ht) (fun hc => ?_) (fun hc => ?_)
        · rw [if_pos (by simpa [cnd] using hc)] at hs; cases hs; exact K _ _ _ hl hP hS
        · rw [if_neg (by simpa [cnd] using hc)] at hs; cases hs; exact K _ _ _ hl hP hS
      | ge =>
        refine lv_if_ge (tgt := t) hx hb hd (jmp_spec ht) (fun hc => ?_) (fun hc => ?_)
        · rw [if_pos (by simpa [cnd] using hc)] at hs; cases hs; exact K _ _ _ hl hP hS
        · rw [if_neg (by simpa [cnd] using hc)] at hs; cases hs; exact K _ _ _ hl hP hS
      | gt =>
        refine lv_if_gt (tgt := t) hx hb hd (jmp_spec ht) (fun hc => ?_) (fun hc => ?_)
        · rw [if_pos (by simpa [cnd] using hc)] at hs; cases hs; exact K _ _ _ hl hP hS
        · rw [if_neg (by simpa [cnd] using hc)] at hs; cases hs; exact K _ _ _ hl hP hS
      | le =>
        refine lv_if_le (tgt := t) hx hb hd (jmp_spec ht) (fun hc => ?_) (fun hc => ?_)
        · rw [if_pos (by simpa [cnd] using hc)] at hs; cases hs; exact K _ _ _ hl hP hS
        · rw [if_neg (by simpa [cnd] using hc)] at hs; cases hs; exact K _ _ _ hl hP hS
    next => cases hs
  next => cases hs
set_option maxHeartbeats 1000000 in
theorem zs_tableswitch (d lo hi : Int) (offs : Array Int) {p : Program} {l : Launch} {e : Env} {R : Room} {s : State} {m : MethodId} {args : Array Value} {below : List Frame} {meth : Method} {c : Code} {D : va_G} {cT : CT} {β : Nat → Nat} {base : Nat} {me : ME} {Ts : List Cond} {n0 : Nat} {scr : Option (Nat × (Nat → Int32))} (C : Ctx p s m args meth c D cT base me Ts n0) (hsc : ScrOK scr β s base) (hβ : ∀ i, i < 4096 → β i = base + i) {pc len : Nat} {lv lv' : LV} {st st' : List Value} {h h2 : Hp} {pc' : Nat} (hs : zStep scr me.1 me.2.2.2.1 pc (isIni me) (.tableswitch d lo hi offs) len lv st h = some (pc', lv', st', h2)) (hd : decode me.2.2.1 pc = .ok (.tableswitch d lo hi offs, len)) (hlen : lenOK (.tableswitch d lo hi offs) len = true) (hroom : rOKb me (pc, .tableswitch d lo hi offs, len) = true) (hR : (me.2.2.2.2.2.2.1 ≤ R.frames ∧ me.2.2.2.2.2.2.2 ≤ R.locals) ∧ h2.1 - n0 ≤ R.cells ∧ szS h2.1 - szS n0 ≤ R.slots) (hn0 : n0 ≤ h.1) (h83 : h.1 ≤ 83) {H : Heap} {locs : List Loc} {ls : Array Slot} {Q : State → Prop} (hl : lv_has ls me.2.2.2.1 (cvL β lv)) (hP : va_P D vwCl (wsOf β cT h) H) (hS : va_S (fun q => base ≤ q) s.heap H locs)
    (K : ∀ (H' : Heap) (locs' : List Loc) (ls' : Array Slot), lv_has ls' me.2.2.2.1 (cvL β lv') → va_P D vwCl (wsOf β cT h2) H' → va_S (fun q => base ≤ q) s.heap H' locs' → W p l e R s m args below meth c H' locs' (h2.1 - n0) (szS h2.1 - szS n0) Q (F0 m pc' ls' (st'.map (cv β)))) :
    W p l e R s m args below meth c H locs (h.1 - n0) (szS h.1 - szS n0) Q (F0 m pc ls (st.map (cv β))) := by
  obtain ⟨hx, hb, hml, hown, hts, hG, hK, hsz, hmk, hini⟩ := C
  replace hs : ((match (generalizing := false) st with
    | .int x :: r => if x.toInt < lo ∨ hi < x.toInt then (match (generalizing := false) jmp pc d with
        | some t => some (t, lv, r, h)
        | none => none) else (match (generalizing := false) offs[(x.toInt - lo).toNat]? with
        | some off => (match (generalizing := false) jmp pc off with
          | some t => some (t, lv, r, h)
          | none => none)
        | none => none)
    | _ => none)) = some (pc', lv', st', h2) := hs
  split at hs
  next x r =>
    split at hs
    next hx1 =>
      split at hs
      next t ht => cases hs; exact lv_tableOut hx hb hd hx1 (jmp_spec ht) (K _ _ _ hl hP hS)
      next => cases hs
    next hx1 =>
      split at hs
      next off ho =>
        split at hs
        next t ht => cases hs; exact lv_tableIn hx hb hd (fun q => hx1 (Or.inl q)) (fun q => hx1 (Or.inr q)) ho (jmp_spec ht) (K _ _ _ hl hP hS)
        next => cases hs
      next => cases hs
  next => cases hs
set_option maxHeartbeats 1000000 in
theorem zs_lookupswitch (d : Int) (ps : Array (Int × Int)) {p : Program} {l : Launch} {e : Env} {R : Room} {s : State} {m : MethodId} {args : Array Value} {below : List Frame} {meth : Method} {c : Code} {D : va_G} {cT : CT} {β : Nat → Nat} {base : Nat} {me : ME} {Ts : List Cond} {n0 : Nat} {scr : Option (Nat × (Nat → Int32))} (C : Ctx p s m args meth c D cT base me Ts n0) (hsc : ScrOK scr β s base) (hβ : ∀ i, i < 4096 → β i = base + i) {pc len : Nat} {lv lv' : LV} {st st' : List Value} {h h2 : Hp} {pc' : Nat} (hs : zStep scr me.1 me.2.2.2.1 pc (isIni me) (.lookupswitch d ps) len lv st h = some (pc', lv', st', h2)) (hd : decode me.2.2.1 pc = .ok (.lookupswitch d ps, len)) (hlen : lenOK (.lookupswitch d ps) len = true) (hroom : rOKb me (pc, .lookupswitch d ps, len) = true) (hR : (me.2.2.2.2.2.2.1 ≤ R.frames ∧ me.2.2.2.2.2.2.2 ≤ R.locals) ∧ h2.1 - n0 ≤ R.cells ∧ szS h2.1 - szS n0 ≤ R.slots) (hn0 : n0 ≤ h.1) (h83 : h.1 ≤ 83) {H : Heap} {locs : List Loc} {ls : Array Slot} {Q : State → Prop} (hl : lv_has ls me.2.2.2.1 (cvL β lv)) (hP : va_P D vwCl (wsOf β cT h) H) (hS : va_S (fun q => base ≤ q) s.heap H locs)
    (K : ∀ (H' : Heap) (locs' : List Loc) (ls' : Array Slot), lv_has ls' me.2.2.2.1 (cvL β lv') → va_P D vwCl (wsOf β cT h2) H' → va_S (fun q => base ≤ q) s.heap H' locs' → W p l e R s m args below meth c H' locs' (h2.1 - n0) (szS h2.1 - szS n0) Q (F0 m pc' ls' (st'.map (cv β)))) :
    W p l e R s m args below meth c H locs (h.1 - n0) (szS h.1 - szS n0) Q (F0 m pc ls (st.map (cv β))) := by
  obtain ⟨hx, hb, hml, hown, hts, hG, hK, hsz, hmk, hini⟩ := C
  replace hs : ((match (generalizing := false) st with
    | .int x :: r => bif (ps.toList.zip (ps.toList.drop 1)).all (fun (a, next) => a.1 < next.1) then (match (generalizing := false) jmp pc (Op.lookupswitch.offset ps.toList d x.toInt) with
        | some t => some (t, lv, r, h)
        | none => none) else none
    | _ => none)) = some (pc', lv', st', h2) := hs
  split at hs
  next x r =>
    cases hb1 : (ps.toList.zip (ps.toList.drop 1)).all (fun (a, next) => a.1 < next.1) with
    | false => rw [hb1] at hs; cases hs
    | true =>
      rw [hb1] at hs
      replace hs : (match (generalizing := false) jmp pc (Op.lookupswitch.offset ps.toList d x.toInt) with
          | some t => some (t, lv, r, h)
          | none => none) = some (pc', lv', st', h2) := hs
      split at hs
      next t ht => cases hs; exact lv_lookup hx hb hd hb1 rfl (jmp_spec ht) (K _ _ _ hl hP hS)
      next => cases hs
  next => cases hs
set_option maxHeartbeats 1000000 in
theorem zs_getfield (ix : Nat) {p : Program} {l : Launch} {e : Env} {R : Room} {s : State} {m : MethodId} {args : Array Value} {below : List Frame} {meth : Method} {c : Code} {D : va_G} {cT : CT} {β : Nat → Nat} {base : Nat} {me : ME} {Ts : List Cond} {n0 : Nat} {scr : Option (Nat × (Nat → Int32))} (C : Ctx p s m args meth c D cT base me Ts n0) (hsc : ScrOK scr β s base) (hβ : ∀ i, i < 4096 → β i = base + i) {pc len : Nat} {lv lv' : LV} {st st' : List Value} {h h2 : Hp} {pc' : Nat} (hs : zStep scr me.1 me.2.2.2.1 pc (isIni me) (.getfield ix) len lv st h = some (pc', lv', st', h2)) (hd : decode me.2.2.1 pc = .ok (.getfield ix, len)) (hlen : lenOK (.getfield ix) len = true) (hroom : rOKb me (pc, .getfield ix, len) = true) (hR : (me.2.2.2.2.2.2.1 ≤ R.frames ∧ me.2.2.2.2.2.2.2 ≤ R.locals) ∧ h2.1 - n0 ≤ R.cells ∧ szS h2.1 - szS n0 ≤ R.slots) (hn0 : n0 ≤ h.1) (h83 : h.1 ≤ 83) {H : Heap} {locs : List Loc} {ls : Array Slot} {Q : State → Prop} (hl : lv_has ls me.2.2.2.1 (cvL β lv)) (hP : va_P D vwCl (wsOf β cT h) H) (hS : va_S (fun q => base ≤ q) s.heap H locs)
    (K : ∀ (H' : Heap) (locs' : List Loc) (ls' : Array Slot), lv_has ls' me.2.2.2.1 (cvL β lv') → va_P D vwCl (wsOf β cT h2) H' → va_S (fun q => base ≤ q) s.heap H' locs' → W p l e R s m args below meth c H' locs' (h2.1 - n0) (szS h2.1 - szS n0) Q (F0 m pc' ls' (st'.map (cv β)))) :
    W p l e R s m args below meth c H locs (h.1 - n0) (szS h.1 - szS n0) Q (F0 m pc ls (st.map (cv β))) := by
  obtain ⟨hx, hb, hml, hown, hts, hG, hK, hsz, hmk, hini⟩ := C
  have hlen1 : len = 3 := Nat.eq_of_beq_eq_true hlen
  subst hlen1
  replace hs : ((match (generalizing := false) st with
    | .ref i :: r => (match (generalizing := false) lkp (poolOf me.1) ix with
      | some (0, ci, k, _) => bif isO h i ci && Nat.blt k (nF ci) then some (pc + 3, lv, (bif isR ci k then rfV (h.2.2 i k) else .int (h.2.1 i k)) :: r, h) else none
      | some (1, ci, k, _) => bif isO h i ci && Nat.blt k (nF ci) then some (pc + 3, lv, (bif isR ci k then rfV (h.2.2 i k) else .int (h.2.1 i k)) :: r, h) else none
      | _ => none)
    | _ => none)) = some (pc', lv', st', h2) := hs
  split at hs
  next i r =>
    split at hs
    next ci k v hp =>
      cases hb1 : isO h i ci && Nat.blt k (nF ci) with
      | false => rw [hb1] at hs; cases hs
      | true =>
        rw [hb1] at hs
        cases hs
        rw [Bool.and_eq_true] at hb1
        obtain ⟨hi, hsh⟩ := isO_spec hb1.1
        have hk : k < nF ci := by simpa using hb1.2
        obtain ⟨Cn, T, N, hc, hkN, hw⟩ := pool_fld hp
        obtain ⟨ty, hin, hN, hCn, hty, hnm, hf⟩ := cls_ok hc
        exact va_get (D := D) (ci := ci) (C := Cn) (T := T) (N := N) hx hb hts (fun w hw => hG w (hin w hw)) hown hK.1 hP i (by rw [wsOf_at hi, cell_obj hsh]) hc k hkN (hts _ (hG _ hw)) (fun _ h9 => h9) (flds_at hk) hd (K _ _ _ hl hP hS)
    
    next ci k v hp =>
      cases hb1 : isO h i ci && Nat.blt k (nF ci) with
      | false => rw [hb1] at hs; cases hs
      | true =>
        rw [hb1] at hs
        cases hs
        rw [Bool.and_eq_true] at hb1
        obtain ⟨hi, hsh⟩ := isO_spec hb1.1
        have hk : k < nF ci := by simpa using hb1.2
        obtain ⟨Cn, T, N, hc, hkN, hw⟩ := pool_fldN hp
        obtain ⟨ty, hin, hN, hCn, hty, hnm, hf⟩ := cls_ok hc
        exact va_getN (D := D) (ci := ci) (C := Cn) (T := T) (N := N) hx hb hts (fun w hw => hG w (hin w hw)) hown hK.1 hP i (by rw [wsOf_at hi, cell_obj hsh]) hc k hkN (va_Nw.use rfl (hK.2.1 _ hw)) (fun _ h9 => h9) (flds_at hk) hd (K _ _ _ hl hP hS)
    
    next => cases hs
  next => cases hs
set_option maxHeartbeats 1000000 in
theorem zs_putfield (ix : Nat) {p : Program} {l : Launch} {e : Env} {R : Room} {s : State} {m : MethodId} {args : Array Value} {below : List Frame} {meth : Method} {c : Code} {D : va_G} {cT : CT} {β : Nat → Nat} {base : Nat} {me : ME} {Ts : List Cond} {n0 : Nat} {scr : Option (Nat × (Nat → Int32))} (C : Ctx p s m args meth c D cT base me Ts n0) (hsc : ScrOK scr β s base) (hβ : ∀ i, i < 4096 → β i = base + i) {pc len : Nat} {lv lv' : LV} {st st' : List Value} {h h2 : Hp} {pc' : Nat} (hs : zStep scr me.1 me.2.2.2.1 pc (isIni me) (.putfield ix) len lv st h = some (pc', lv', st', h2)) (hd : decode me.2.2.1 pc = .ok (.putfield ix, len)) (hlen : lenOK (.putfield ix) len = true) (hroom : rOKb me (pc, .putfield ix, len) = true) (hR : (me.2.2.2.2.2.2.1 ≤ R.frames ∧ me.2.2.2.2.2.2.2 ≤ R.locals) ∧ h2.1 - n0 ≤ R.cells ∧ szS h2.1 - szS n0 ≤ R.slots) (hn0 : n0 ≤ h.1) (h83 : h.1 ≤ 83) {H : Heap} {locs : List Loc} {ls : Array Slot} {Q : State → Prop} (hl : lv_has ls me.2.2.2.1 (cvL β lv)) (hP : va_P D vwCl (wsOf β cT h) H) (hS : va_S (fun q => base ≤ q) s.heap H locs)
    (K : ∀ (H' : Heap) (locs' : List Loc) (ls' : Array Slot), lv_has ls' me.2.2.2.1 (cvL β lv') → va_P D vwCl (wsOf β cT h2) H' → va_S (fun q => base ≤ q) s.heap H' locs' → W p l e R s m args below meth c H' locs' (h2.1 - n0) (szS h2.1 - szS n0) Q (F0 m pc' ls' (st'.map (cv β)))) :
    W p l e R s m args below meth c H locs (h.1 - n0) (szS h.1 - szS n0) Q (F0 m pc ls (st.map (cv β))) := by
  obtain ⟨hx, hb, hml, hown, hts, hG, hK, hsz, hmk, hini⟩ := C
  have hlen1 : len = 3 := Nat.eq_of_beq_eq_true hlen
  subst hlen1
  replace hs : ((match (generalizing := false) st with
    | .int x :: .ref i :: r => (match (generalizing := false) lkp (poolOf me.1) ix with
      | some (0, ci, k, _) => bif isO h i ci && Nat.blt k (nF ci) && !isR ci k && !finF ci k then some (pc + 3, lv, r, (h.1, up2 h.2.1 i k x, h.2.2)) else none
      | some (1, ci, k, _) => bif isO h i ci && Nat.blt k (nF ci) && !isR ci k && !finF ci k then some (pc + 3, lv, r, (h.1, up2 h.2.1 i k x, h.2.2)) else none
      | _ => none)
    | .ref x :: .ref i :: r => (match (generalizing := false) lkp (poolOf me.1) ix with
      | some (0, ci, k, _) => bif isO h i ci && Nat.blt k (nF ci) && isR ci k && (!finF ci k || (isIni me && Nat.beq me.1 ci)) then some (pc + 3, lv, r, (h.1, h.2.1, up2 h.2.2 i k (some x))) else none
      | _ => none)
    | _ => none)) = some (pc', lv', st', h2) := hs
  split at hs
  next x i r =>
    split at hs
    next ci k v hp =>
      cases hb1 : isO h i ci && Nat.blt k (nF ci) && !isR ci k && !finF ci k with
      | false => rw [hb1] at hs; cases hs
      | true =>
        rw [hb1] at hs
        cases hs
        rw [Bool.and_eq_true, Bool.and_eq_true, Bool.and_eq_true] at hb1
        obtain ⟨⟨⟨b1, b2⟩, b3⟩, b4⟩ := hb1
        obtain ⟨hi, hsh⟩ := isO_spec b1
        have hk : k < nF ci := by simpa using b2
        have hr : isR ci k = false := by simpa using b3
        obtain ⟨Cn, T, N, hc, hkN, hw⟩ := pool_fld hp
        obtain ⟨ty, hin, hN, hCn, hty, hnm, hf⟩ := cls_ok hc
        obtain ⟨f1, f2, f3, f4⟩ := hf k hkN
        refine va_put (D := D) (ci := ci) (C := Cn) (T := T) (N := N) (ty := .int) (v := .int x) hx hb hts (fun w hw => hG w (hin w hw)) ty hty hnm hown hK.1 hP (wsOf_D (fun i hi => hβ i (by omega))) hS i (by rw [wsOf_at hi, cell_obj hsh]) hc k hkN (hts _ (hG _ hw)) (fun _ h9 => h9) (by rw [f2]; simpa using b4) (by rw [hty k hkN, f3 hr]) rfl rfl (by rw [flds_len]; exact hk) hd (fun H1 locs1 hP1 hD1 hS1 => ?_)
        rw [flds_setI hr, ← cell_obj (cT := cT) hsh, wsOf_set (h := h) (i := i) (h' := (h.1, up2 h.2.1 i k x, h.2.2)) rfl (fun j hj => cell_same (up2_ne hj) rfl)] at hP1
        exact K _ _ _ hl hP1 hS1
    next ci k v hp =>
      cases hb1 : isO h i ci && Nat.blt k (nF ci) && !isR ci k && !finF ci k with
      | false => rw [hb1] at hs; cases hs
      | true =>
        rw [hb1] at hs
        cases hs
        rw [Bool.and_eq_true, Bool.and_eq_true, Bool.and_eq_true] at hb1
        obtain ⟨⟨⟨b1, b2⟩, b3⟩, b4⟩ := hb1
        obtain ⟨hi, hsh⟩ := isO_spec b1
        have hk : k < nF ci := by simpa using b2
        have hr : isR ci k = false := by simpa using b3
        obtain ⟨Cn, T, N, hc, hkN, hw⟩ := pool_fldN hp
        obtain ⟨ty, hin, hN, hCn, hty, hnm, hf⟩ := cls_ok hc
        obtain ⟨f1, f2, f3, f4⟩ := hf k hkN
        refine va_putN (D := D) (ci := ci) (C := Cn) (T := T) (N := N) (ty := .int) (v := .int x) hx hb hts (fun w hw => hG w (hin w hw)) ty hty hnm hown hK.1 hP (wsOf_D (fun i hi => hβ i (by omega))) hS i (by rw [wsOf_at hi, cell_obj hsh]) hc k hkN (va_Nw.use rfl (hK.2.1 _ hw)) (fun _ h9 => h9) (by rw [f2]; simpa using b4) (by rw [hty k hkN, f3 hr]) rfl rfl (by rw [flds_len]; exact hk) hd (fun H1 locs1 hP1 hD1 hS1 => ?_)
        rw [flds_setI hr, ← cell_obj (cT := cT) hsh, wsOf_set (h := h) (i := i) (h' := (h.1, up2 h.2.1 i k x, h.2.2)) rfl (fun j hj => cell_same (up2_ne hj) rfl)] at hP1
        exact K _ _ _ hl hP1 hS1
    next => cases hs
  next x i r =>
    split at hs
    next ci k v hp =>
      cases hb1 : isO h i ci && Nat.blt k (nF ci) && isR ci k && (!finF ci k || (isIni me && Nat.beq me.1 ci)) with
      | false => rw [hb1] at hs; cases hs
      | true =>
        rw [hb1] at hs
        cases hs
        rw [Bool.and_eq_true, Bool.and_eq_true, Bool.and_eq_true] at hb1
        obtain ⟨⟨⟨b1, b2⟩, hr⟩, b4⟩ := hb1
        obtain ⟨hi, hsh⟩ := isO_spec b1
        have hk : k < nF ci := by simpa using b2
        obtain ⟨Cn, T, N, hc, hkN, hw⟩ := pool_fld hp
        obtain ⟨ty, hin, hN, hCn, hty, hnm, hf⟩ := cls_ok hc
        obtain ⟨f1, f2, f3, f4⟩ := hf k hkN
        have hnf : narrow (ty k) (.ref (β x)) = .ref (β x) ∧ fits (ty k) (.ref (β x)) = true := by
          rcases f4 hr with q | q | ⟨c1, q | q⟩ <;> rw [q] <;> exact ⟨rfl, rfl⟩
        have fin : ∀ (H1 : Heap) (locs1 : List Loc), va_P D vwCl ((wsOf β cT h).set i (β i, .inr (ci, (fldsOf β h i ci).set k (.ref (β x))))) H1 → va_S (fun q => base ≤ q) s.heap H1 locs1 → W p l e R s m args below meth c H1 locs1 (h.1 - n0) (szS h.1 - szS n0) Q (F0 m (pc + 3) ls (st'.map (cv β))) := by
          intro H1 locs1 hP1 hS1
          rw [flds_setR hr, ← cell_obj (cT := cT) hsh, wsOf_set (h := h) (i := i) (h' := (h.1, h.2.1, up2 h.2.2 i k (some x))) rfl (fun j hj => cell_same rfl (up2_ne hj))] at hP1
          exact K _ _ _ hl hP1 hS1
        cases hfin : finF ci k with
        | false => exact va_put (D := D) (ci := ci) (C := Cn) (T := T) (N := N) (ty := ty k) hx hb hts (fun w hw => hG w (hin w hw)) ty hty hnm hown hK.1 hP (wsOf_D (fun i hi => hβ i (by omega))) hS i (by rw [wsOf_at hi, cell_obj hsh]) hc k hkN (hts _ (hG _ hw)) (fun _ h9 => h9) (by rw [f2]; exact hfin) (hty k hkN) hnf.1 hnf.2 (by rw [flds_len]; exact hk) hd (fun H1 locs1 hP1 hD1 hS1 => fin H1 locs1 hP1 hS1)
        | true =>
          rw [hfin] at b4
          replace b4 : (isIni me && Nat.beq me.1 ci) = true := b4
          rw [Bool.and_eq_true] at b4
          exact va_putF (D := D) (ci := ci) (C := Cn) (T := T) (N := N) (ty := ty k) hx hb hts (fun w hw => hG w (hin w hw)) ty hty hnm hown hK.1 hP (wsOf_D (fun i hi => hβ i (by omega))) hS i (by rw [wsOf_at hi, cell_obj hsh]) hc k hkN (hts _ (hG _ hw)) (fun _ h9 => h9) (by rw [f2]; exact hfin) (hini b4.1) (by rw [f1, hCn, Nat.eq_of_beq_eq_true b4.2]) (hty k hkN) hnf.1 hnf.2 (by rw [flds_len]; exact hk) hd (fun H1 locs1 hP1 hD1 hS1 => fin H1 locs1 hP1 hS1)
    next => cases hs
  next => cases hs
set_option maxHeartbeats 1000000 in
theorem zs_iaload  {p : Program} {l : Launch} {e : Env} {R : Room} {s : State} {m : MethodId} {args : Array Value} {below : List Frame} {meth : Method} {c : Code} {D : va_G} {cT : CT} {β : Nat → Nat} {base : Nat} {me : ME} {Ts : List Cond} {n0 : Nat} {scr : Option (Nat × (Nat → Int32))} (C : Ctx p s m args meth c D cT base me Ts n0) (hsc : ScrOK scr β s base) (hβ : ∀ i, i < 4096 → β i = base + i) {pc len : Nat} {lv lv' : LV} {st st' : List Value} {h h2 : Hp} {pc' : Nat} (hs : zStep scr me.1 me.2.2.2.1 pc (isIni me) (.iaload) len lv st h = some (pc', lv', st', h2)) (hd : decode me.2.2.1 pc = .ok (.iaload, len)) (hlen : lenOK (.iaload) len = true) (hroom : rOKb me (pc, .iaload, len) = true) (hR : (me.2.2.2.2.2.2.1 ≤ R.frames ∧ me.2.2.2.2.2.2.2 ≤ R.locals) ∧ h2.1 - n0 ≤ R.cells ∧ szS h2.1 - szS n0 ≤ R.slots) (hn0 : n0 ≤ h.1) (h83 : h.1 ≤ 83) {H : Heap} {locs : List Loc} {ls : Array Slot} {Q : State → Prop} (hl : lv_has ls me.2.2.2.1 (cvL β lv)) (hP : va_P D vwCl (wsOf β cT h) H) (hS : va_S (fun q => base ≤ q) s.heap H locs)
    (K : ∀ (H' : Heap) (locs' : List Loc) (ls' : Array Slot), lv_has ls' me.2.2.2.1 (cvL β lv') → va_P D vwCl (wsOf β cT h2) H' → va_S (fun q => base ≤ q) s.heap H' locs' → W p l e R s m args below meth c H' locs' (h2.1 - n0) (szS h2.1 - szS n0) Q (F0 m pc' ls' (st'.map (cv β)))) :
    W p l e R s m args below meth c H locs (h.1 - n0) (szS h.1 - szS n0) Q (F0 m pc ls (st.map (cv β))) := by
  obtain ⟨hx, hb, hml, hown, hts, hG, hK, hsz, hmk, hini⟩ := C
  have hlen1 : len = 1 := Nat.eq_of_beq_eq_true hlen
  subst hlen1
  replace hs : ((match (generalizing := false) st with
    | .int j :: .ref i :: r => bif Nat.beq i sId then (match (generalizing := false) scr with
      | some (L, xs) => bif inB j L then some (pc + 1, lv, .int (xs j.toNatClampNeg) :: r, h) else none
      | none => none) else (match (generalizing := false) arrL h i 0 with
      | some n => bif inB j n then some (pc + 1, lv, .int (h.2.1 i j.toNatClampNeg) :: r, h) else none
      | none => none)
    | _ => none)) = some (pc', lv', st', h2) := hs
  split at hs
  next j i r =>
    cases hb0 : Nat.beq i sId with
    | true =>
      rw [hb0] at hs
      replace hs : (match (generalizing := false) scr with
        | some (L, xs) => bif inB j L then some (pc + 1, lv, .int (xs j.toNatClampNeg) :: r, h) else none
        | none => none) = some (pc', lv', st', h2) := hs
      split at hs
      next L xs =>
        cases hb1 : inB j L with
        | false => rw [hb1] at hs; cases hs
        | true =>
          rw [hb1] at hs
          cases hs
          obtain ⟨x1, x2, x3⟩ := hsc L xs rfl
          rw [Nat.eq_of_beq_eq_true hb0]
          exact va_sld (A := fun q => base ≤ q) hx hb x1 x2 (Nat.not_le.mpr x3) hS (inB_spec hb1) hd (K _ _ _ hl hP hS)
      next => cases hs
    | false =>
      rw [hb0] at hs
      replace hs : (match (generalizing := false) arrL h i 0 with
        | some n => bif inB j n then some (pc + 1, lv, .int (h.2.1 i j.toNatClampNeg) :: r, h) else none
        | none => none) = some (pc', lv', st', h2) := hs
      split at hs
      next n ha =>
        cases hb1 : inB j n with
        | false => rw [hb1] at hs; cases hs
        | true =>
          rw [hb1] at hs
          cases hs
          obtain ⟨hi, hsh⟩ := arrL_spec ha
          exact va_iald hx hb hK.1 hP i 0 (by rw [wsOf_at hi, cell_a0 hsh]) rfl (inB_spec hb1) hd (K _ _ _ hl hP hS)
    
      next => cases hs
  next => cases hs
set_option maxHeartbeats 1000000 in
theorem zs_baload  {p : Program} {l : Launch} {e : Env} {R : Room} {s : State} {m : MethodId} {args : Array Value} {below : List Frame} {meth : Method} {c : Code} {D : va_G} {cT : CT} {β : Nat → Nat} {base : Nat} {me : ME} {Ts : List Cond} {n0 : Nat} {scr : Option (Nat × (Nat → Int32))} (C : Ctx p s m args meth c D cT base me Ts n0) (hsc : ScrOK scr β s base) (hβ : ∀ i, i < 4096 → β i = base + i) {pc len : Nat} {lv lv' : LV} {st st' : List Value} {h h2 : Hp} {pc' : Nat} (hs : zStep scr me.1 me.2.2.2.1 pc (isIni me) (.baload) len lv st h = some (pc', lv', st', h2)) (hd : decode me.2.2.1 pc = .ok (.baload, len)) (hlen : lenOK (.baload) len = true) (hroom : rOKb me (pc, .baload, len) = true) (hR : (me.2.2.2.2.2.2.1 ≤ R.frames ∧ me.2.2.2.2.2.2.2 ≤ R.locals) ∧ h2.1 - n0 ≤ R.cells ∧ szS h2.1 - szS n0 ≤ R.slots) (hn0 : n0 ≤ h.1) (h83 : h.1 ≤ 83) {H : Heap} {locs : List Loc} {ls : Array Slot} {Q : State → Prop} (hl : lv_has ls me.2.2.2.1 (cvL β lv)) (hP : va_P D vwCl (wsOf β cT h) H) (hS : va_S (fun q => base ≤ q) s.heap H locs)
    (K : ∀ (H' : Heap) (locs' : List Loc) (ls' : Array Slot), lv_has ls' me.2.2.2.1 (cvL β lv') → va_P D vwCl (wsOf β cT h2) H' → va_S (fun q => base ≤ q) s.heap H' locs' → W p l e R s m args below meth c H' locs' (h2.1 - n0) (szS h2.1 - szS n0) Q (F0 m pc' ls' (st'.map (cv β)))) :
    W p l e R s m args below meth c H locs (h.1 - n0) (szS h.1 - szS n0) Q (F0 m pc ls (st.map (cv β))) := by
  obtain ⟨hx, hb, hml, hown, hts, hG, hK, hsz, hmk, hini⟩ := C
  have hlen1 : len = 1 := Nat.eq_of_beq_eq_true hlen
  subst hlen1
  replace hs : ((match (generalizing := false) st with
    | .int j :: .ref i :: r => (match (generalizing := false) arrL h i 1 with
      | some n => bif inB j n then some (pc + 1, lv, .int (h.2.1 i j.toNatClampNeg) :: r, h) else none
      | none => none)
    | _ => none)) = some (pc', lv', st', h2) := hs
  split at hs
  next j i r =>
    split at hs
    next n ha =>
      cases hb1 : inB j n with
      | false => rw [hb1] at hs; cases hs
      | true =>
        rw [hb1] at hs
        cases hs
        obtain ⟨hi, hsh⟩ := arrL_spec ha
        exact va_bald hx hb hK.1 hP i 1 (by rw [wsOf_at hi, cell_a1 hsh]) rfl (inB_spec hb1) hd (K _ _ _ hl hP hS)
    next => cases hs
  next => cases hs
set_option maxHeartbeats 1000000 in
theorem zs_aaload  {p : Program} {l : Launch} {e : Env} {R : Room} {s : State} {m : MethodId} {args : Array Value} {below : List Frame} {meth : Method} {c : Code} {D : va_G} {cT : CT} {β : Nat → Nat} {base : Nat} {me : ME} {Ts : List Cond} {n0 : Nat} {scr : Option (Nat × (Nat → Int32))} (C : Ctx p s m args meth c D cT base me Ts n0) (hsc : ScrOK scr β s base) (hβ : ∀ i, i < 4096 → β i = base + i) {pc len : Nat} {lv lv' : LV} {st st' : List Value} {h h2 : Hp} {pc' : Nat} (hs : zStep scr me.1 me.2.2.2.1 pc (isIni me) (.aaload) len lv st h = some (pc', lv', st', h2)) (hd : decode me.2.2.1 pc = .ok (.aaload, len)) (hlen : lenOK (.aaload) len = true) (hroom : rOKb me (pc, .aaload, len) = true) (hR : (me.2.2.2.2.2.2.1 ≤ R.frames ∧ me.2.2.2.2.2.2.2 ≤ R.locals) ∧ h2.1 - n0 ≤ R.cells ∧ szS h2.1 - szS n0 ≤ R.slots) (hn0 : n0 ≤ h.1) (h83 : h.1 ≤ 83) {H : Heap} {locs : List Loc} {ls : Array Slot} {Q : State → Prop} (hl : lv_has ls me.2.2.2.1 (cvL β lv)) (hP : va_P D vwCl (wsOf β cT h) H) (hS : va_S (fun q => base ≤ q) s.heap H locs)
    (K : ∀ (H' : Heap) (locs' : List Loc) (ls' : Array Slot), lv_has ls' me.2.2.2.1 (cvL β lv') → va_P D vwCl (wsOf β cT h2) H' → va_S (fun q => base ≤ q) s.heap H' locs' → W p l e R s m args below meth c H' locs' (h2.1 - n0) (szS h2.1 - szS n0) Q (F0 m pc' ls' (st'.map (cv β)))) :
    W p l e R s m args below meth c H locs (h.1 - n0) (szS h.1 - szS n0) Q (F0 m pc ls (st.map (cv β))) := by
  obtain ⟨hx, hb, hml, hown, hts, hG, hK, hsz, hmk, hini⟩ := C
  have hlen1 : len = 1 := Nat.eq_of_beq_eq_true hlen
  subst hlen1
  replace hs : ((match (generalizing := false) st with
    | .int j :: .ref i :: r => (match (generalizing := false) arrL h i 2 with
      | some n => bif inB j n then some (pc + 1, lv, rfV (h.2.2 i j.toNatClampNeg) :: r, h) else none
      | none => none)
    | _ => none)) = some (pc', lv', st', h2) := hs
  split at hs
  next j i r =>
    split at hs
    next n ha =>
      cases hb1 : inB j n with
      | false => rw [hb1] at hs; cases hs
      | true =>
        rw [hb1] at hs
        cases hs
        obtain ⟨hi, hsh⟩ := arrL_spec ha
        refine va_aldq hx hb hK.1 hP i 2 (by rw [wsOf_at hi, cell_a2 hsh]) rfl (inB_spec hb1) hd ?_
        have k1 := K _ _ _ hl hP hS
        rw [List.map_cons, cv_rf] at k1
        exact k1
    next => cases hs
  next => cases hs
set_option maxHeartbeats 1000000 in
theorem zs_iastore  {p : Program} {l : Launch} {e : Env} {R : Room} {s : State} {m : MethodId} {args : Array Value} {below : List Frame} {meth : Method} {c : Code} {D : va_G} {cT : CT} {β : Nat → Nat} {base : Nat} {me : ME} {Ts : List Cond} {n0 : Nat} {scr : Option (Nat × (Nat → Int32))} (C : Ctx p s m args meth c D cT base me Ts n0) (hsc : ScrOK scr β s base) (hβ : ∀ i, i < 4096 → β i = base + i) {pc len : Nat} {lv lv' : LV} {st st' : List Value} {h h2 : Hp} {pc' : Nat} (hs : zStep scr me.1 me.2.2.2.1 pc (isIni me) (.iastore) len lv st h = some (pc', lv', st', h2)) (hd : decode me.2.2.1 pc = .ok (.iastore, len)) (hlen : lenOK (.iastore) len = true) (hroom : rOKb me (pc, .iastore, len) = true) (hR : (me.2.2.2.2.2.2.1 ≤ R.frames ∧ me.2.2.2.2.2.2.2 ≤ R.locals) ∧ h2.1 - n0 ≤ R.cells ∧ szS h2.1 - szS n0 ≤ R.slots) (hn0 : n0 ≤ h.1) (h83 : h.1 ≤ 83) {H : Heap} {locs : List Loc} {ls : Array Slot} {Q : State → Prop} (hl : lv_has ls me.2.2.2.1 (cvL β lv)) (hP : va_P D vwCl (wsOf β cT h) H) (hS : va_S (fun q => base ≤ q) s.heap H locs)
    (K : ∀ (H' : Heap) (locs' : List Loc) (ls' : Array Slot), lv_has ls' me.2.2.2.1 (cvL β lv') → va_P D vwCl (wsOf β cT h2) H' → va_S (fun q => base ≤ q) s.heap H' locs' → W p l e R s m args below meth c H' locs' (h2.1 - n0) (szS h2.1 - szS n0) Q (F0 m pc' ls' (st'.map (cv β)))) :
    W p l e R s m args below meth c H locs (h.1 - n0) (szS h.1 - szS n0) Q (F0 m pc ls (st.map (cv β))) := by
  obtain ⟨hx, hb, hml, hown, hts, hG, hK, hsz, hmk, hini⟩ := C
  have hlen1 : len = 1 := Nat.eq_of_beq_eq_true hlen
  subst hlen1
  replace hs : ((match (generalizing := false) st with
    | .int x :: .int j :: .ref i :: r => (match (generalizing := false) arrL h i 0 with
      | some n => bif inB j n then some (pc + 1, lv, r, (h.1, up2 h.2.1 i j.toNatClampNeg x, h.2.2)) else none
      | none => none)
    | _ => none)) = some (pc', lv', st', h2) := hs
  split at hs
  next x j i r =>
    split at hs
    next n ha =>
      cases hb1 : inB j n with
      | false => rw [hb1] at hs; cases hs
      | true =>
        rw [hb1] at hs
        cases hs
        obtain ⟨hi, hsh⟩ := arrL_spec ha
        refine va_iast hx hb hK.1 hP (wsOf_D (fun i hi => hβ i (by omega))) hS i 0 (by rw [wsOf_at hi, cell_a0 hsh]) rfl (inB_spec hb1) hd (fun H1 locs1 hP1 hD1 hS1 => ?_)
        rw [← up2_eq, ← cell_a0 (β := β) (cT := cT) (h := (h.1, up2 h.2.1 i j.toNatClampNeg x, h.2.2)) hsh, wsOf_set (h := h) (h' := (h.1, up2 h.2.1 i j.toNatClampNeg x, h.2.2)) (i := i) rfl (fun j hj => cell_same (up2_ne hj) rfl)] at hP1
        exact K _ _ _ hl hP1 hS1
    next => cases hs
  next => cases hs
set_option maxHeartbeats 1000000 in
theorem zs_bastore  {p : Program} {l : Launch} {e : Env} {R : Room} {s : State} {m : MethodId} {args : Array Value} {below : List Frame} {meth : Method} {c : Code} {D : va_G} {cT : CT} {β : Nat → Nat} {base : Nat} {me : ME} {Ts : List Cond} {n0 : Nat} {scr : Option (Nat × (Nat → Int32))} (C : Ctx p s m args meth c D cT base me Ts n0) (hsc : ScrOK scr β s base) (hβ : ∀ i, i < 4096 → β i = base + i) {pc len : Nat} {lv lv' : LV} {st st' : List Value} {h h2 : Hp} {pc' : Nat} (hs : zStep scr me.1 me.2.2.2.1 pc (isIni me) (.bastore) len lv st h = some (pc', lv', st', h2)) (hd : decode me.2.2.1 pc = .ok (.bastore, len)) (hlen : lenOK (.bastore) len = true) (hroom : rOKb me (pc, .bastore, len) = true) (hR : (me.2.2.2.2.2.2.1 ≤ R.frames ∧ me.2.2.2.2.2.2.2 ≤ R.locals) ∧ h2.1 - n0 ≤ R.cells ∧ szS h2.1 - szS n0 ≤ R.slots) (hn0 : n0 ≤ h.1) (h83 : h.1 ≤ 83) {H : Heap} {locs : List Loc} {ls : Array Slot} {Q : State → Prop} (hl : lv_has ls me.2.2.2.1 (cvL β lv)) (hP : va_P D vwCl (wsOf β cT h) H) (hS : va_S (fun q => base ≤ q) s.heap H locs)
    (K : ∀ (H' : Heap) (locs' : List Loc) (ls' : Array Slot), lv_has ls' me.2.2.2.1 (cvL β lv') → va_P D vwCl (wsOf β cT h2) H' → va_S (fun q => base ≤ q) s.heap H' locs' → W p l e R s m args below meth c H' locs' (h2.1 - n0) (szS h2.1 - szS n0) Q (F0 m pc' ls' (st'.map (cv β)))) :
    W p l e R s m args below meth c H locs (h.1 - n0) (szS h.1 - szS n0) Q (F0 m pc ls (st.map (cv β))) := by
  obtain ⟨hx, hb, hml, hown, hts, hG, hK, hsz, hmk, hini⟩ := C
  have hlen1 : len = 1 := Nat.eq_of_beq_eq_true hlen
  subst hlen1
  replace hs : ((match (generalizing := false) st with
    | .int x :: .int j :: .ref i :: r => (match (generalizing := false) arrL h i 1 with
      | some n => bif inB j n then some (pc + 1, lv, r, (h.1, up2 h.2.1 i j.toNatClampNeg (vp_nar .byte x), h.2.2)) else none
      | none => none)
    | _ => none)) = some (pc', lv', st', h2) := hs
  split at hs
  next x j i r =>
    split at hs
    next n ha =>
      cases hb1 : inB j n with
      | false => rw [hb1] at hs; cases hs
      | true =>
        rw [hb1] at hs
        cases hs
        obtain ⟨hi, hsh⟩ := arrL_spec ha
        refine va_bast hx hb hK.1 hP (wsOf_D (fun i hi => hβ i (by omega))) hS i 1 (by rw [wsOf_at hi, cell_a1 hsh]) rfl (inB_spec hb1) hd (fun H1 locs1 hP1 hD1 hS1 => ?_)
        rw [← up2_eq, ← cell_a1 (β := β) (cT := cT) (h := (h.1, up2 h.2.1 i j.toNatClampNeg (vp_nar .byte x), h.2.2)) hsh, wsOf_set (h := h) (h' := (h.1, up2 h.2.1 i j.toNatClampNeg (vp_nar .byte x), h.2.2)) (i := i) rfl (fun j hj => cell_same (up2_ne hj) rfl)] at hP1
        exact K _ _ _ hl hP1 hS1
    next => cases hs
  next => cases hs
set_option maxHeartbeats 1000000 in
theorem zs_aastore  {p : Program} {l : Launch} {e : Env} {R : Room} {s : State} {m : MethodId} {args : Array Value} {below : List Frame} {meth : Method} {c : Code} {D : va_G} {cT : CT} {β : Nat → Nat} {base : Nat} {me : ME} {Ts : List Cond} {n0 : Nat} {scr : Option (Nat × (Nat → Int32))} (C : Ctx p s m args meth c D cT base me Ts n0) (hsc : ScrOK scr β s base) (hβ : ∀ i, i < 4096 → β i = base + i) {pc len : Nat} {lv lv' : LV} {st st' : List Value} {h h2 : Hp} {pc' : Nat} (hs : zStep scr me.1 me.2.2.2.1 pc (isIni me) (.aastore) len lv st h = some (pc', lv', st', h2)) (hd : decode me.2.2.1 pc = .ok (.aastore, len)) (hlen : lenOK (.aastore) len = true) (hroom : rOKb me (pc, .aastore, len) = true) (hR : (me.2.2.2.2.2.2.1 ≤ R.frames ∧ me.2.2.2.2.2.2.2 ≤ R.locals) ∧ h2.1 - n0 ≤ R.cells ∧ szS h2.1 - szS n0 ≤ R.slots) (hn0 : n0 ≤ h.1) (h83 : h.1 ≤ 83) {H : Heap} {locs : List Loc} {ls : Array Slot} {Q : State → Prop} (hl : lv_has ls me.2.2.2.1 (cvL β lv)) (hP : va_P D vwCl (wsOf β cT h) H) (hS : va_S (fun q => base ≤ q) s.heap H locs)
    (K : ∀ (H' : Heap) (locs' : List Loc) (ls' : Array Slot), lv_has ls' me.2.2.2.1 (cvL β lv') → va_P D vwCl (wsOf β cT h2) H' → va_S (fun q => base ≤ q) s.heap H' locs' → W p l e R s m args below meth c H' locs' (h2.1 - n0) (szS h2.1 - szS n0) Q (F0 m pc' ls' (st'.map (cv β)))) :
    W p l e R s m args below meth c H locs (h.1 - n0) (szS h.1 - szS n0) Q (F0 m pc ls (st.map (cv β))) := by
  obtain ⟨hx, hb, hml, hown, hts, hG, hK, hsz, hmk, hini⟩ := C
  have hlen1 : len = 1 := Nat.eq_of_beq_eq_true hlen
  subst hlen1
  replace hs : ((match (generalizing := false) st with
    | .ref x :: .int j :: .ref i :: r => (match (generalizing := false) arrL h i 2 with
      | some n => bif inB j n && isO h x 5 then some (pc + 1, lv, r, (h.1, h.2.1, up2 h.2.2 i j.toNatClampNeg (some x))) else none
      | none => none)
    | _ => none)) = some (pc', lv', st', h2) := hs
  split at hs
  next x j i r =>
    split at hs
    next n ha =>
      cases hb1 : inB j n && isO h x 5 with
      | false => rw [hb1] at hs; cases hs
      | true =>
        rw [hb1] at hs
        cases hs
        obtain ⟨hi, hsh⟩ := arrL_spec ha
        rw [Bool.and_eq_true] at hb1
        obtain ⟨hxi, hxs⟩ := isO_spec hb1.2
        refine va_astq (r := (RX5, TX5, 3)) hx hb hK.1 hP (wsOf_D (fun i hi => hβ i (by omega))) hS i 2 x 5 (by rw [wsOf_at hi, cell_a2 hsh]) rfl (by rw [wsOf_at hxi, cell_obj hxs]) rfl (inB_spec hb1.1) hd (fun H1 locs1 hP1 hD1 hS1 => ?_)
        have e1 : va_up (fun j => (h.2.2 i j).map β) j.toNatClampNeg (some (β x)) = fun q => ((h.1, h.2.1, up2 h.2.2 i j.toNatClampNeg (some x)) : Hp).2.2 i q |>.map β := by
          funext q
          by_cases hq : q = j.toNatClampNeg
          · subst hq; simp [va_up, up2]
          · simp [va_up, up2, hq]
        rw [e1, ← cell_a2 (β := β) (cT := cT) (h := (h.1, h.2.1, up2 h.2.2 i j.toNatClampNeg (some x))) hsh, wsOf_set (h := h) (h' := (h.1, h.2.1, up2 h.2.2 i j.toNatClampNeg (some x))) (i := i) rfl (fun j hj => cell_same rfl (up2_ne hj))] at hP1
        exact K _ _ _ hl hP1 hS1
    next => cases hs
  next => cases hs
set_option maxHeartbeats 1000000 in
theorem zs_arraylength  {p : Program} {l : Launch} {e : Env} {R : Room} {s : State} {m : MethodId} {args : Array Value} {below : List Frame} {meth : Method} {c : Code} {D : va_G} {cT : CT} {β : Nat → Nat} {base : Nat} {me : ME} {Ts : List Cond} {n0 : Nat} {scr : Option (Nat × (Nat → Int32))} (C : Ctx p s m args meth c D cT base me Ts n0) (hsc : ScrOK scr β s base) (hβ : ∀ i, i < 4096 → β i = base + i) {pc len : Nat} {lv lv' : LV} {st st' : List Value} {h h2 : Hp} {pc' : Nat} (hs : zStep scr me.1 me.2.2.2.1 pc (isIni me) (.arraylength) len lv st h = some (pc', lv', st', h2)) (hd : decode me.2.2.1 pc = .ok (.arraylength, len)) (hlen : lenOK (.arraylength) len = true) (hroom : rOKb me (pc, .arraylength, len) = true) (hR : (me.2.2.2.2.2.2.1 ≤ R.frames ∧ me.2.2.2.2.2.2.2 ≤ R.locals) ∧ h2.1 - n0 ≤ R.cells ∧ szS h2.1 - szS n0 ≤ R.slots) (hn0 : n0 ≤ h.1) (h83 : h.1 ≤ 83) {H : Heap} {locs : List Loc} {ls : Array Slot} {Q : State → Prop} (hl : lv_has ls me.2.2.2.1 (cvL β lv)) (hP : va_P D vwCl (wsOf β cT h) H) (hS : va_S (fun q => base ≤ q) s.heap H locs)
    (K : ∀ (H' : Heap) (locs' : List Loc) (ls' : Array Slot), lv_has ls' me.2.2.2.1 (cvL β lv') → va_P D vwCl (wsOf β cT h2) H' → va_S (fun q => base ≤ q) s.heap H' locs' → W p l e R s m args below meth c H' locs' (h2.1 - n0) (szS h2.1 - szS n0) Q (F0 m pc' ls' (st'.map (cv β)))) :
    W p l e R s m args below meth c H locs (h.1 - n0) (szS h.1 - szS n0) Q (F0 m pc ls (st.map (cv β))) := by
  obtain ⟨hx, hb, hml, hown, hts, hG, hK, hsz, hmk, hini⟩ := C
  have hlen1 : len = 1 := Nat.eq_of_beq_eq_true hlen
  subst hlen1
  replace hs : ((match (generalizing := false) st with
    | .ref i :: r => bif Nat.beq i sId then (match (generalizing := false) scr with
      | some (L, _) => some (pc + 1, lv, .int (Int32.ofNat L) :: r, h)
      | none => none) else (match (generalizing := false) arrL h i 0 with
      | some n => some (pc + 1, lv, .int (Int32.ofNat n) :: r, h)
      | none => none)
    | _ => none)) = some (pc', lv', st', h2) := hs
  split at hs
  next i r =>
    cases hb0 : Nat.beq i sId with
    | true =>
      rw [hb0] at hs
      replace hs : (match (generalizing := false) scr with
        | some (L, _) => some (pc + 1, lv, .int (Int32.ofNat L) :: r, h)
        | none => none) = some (pc', lv', st', h2) := hs
      split at hs
      next L xs =>
        cases hs
        obtain ⟨x1, x2, x3⟩ := hsc L xs rfl
        rw [Nat.eq_of_beq_eq_true hb0]
        exact va_slen (A := fun q => base ≤ q) hx hb x1 x2 (Nat.not_le.mpr x3) hS hd (K _ _ _ hl hP hS)
      next => cases hs
    | false =>
      rw [hb0] at hs
      replace hs : (match (generalizing := false) arrL h i 0 with
        | some n => some (pc + 1, lv, .int (Int32.ofNat n) :: r, h)
        | none => none) = some (pc', lv', st', h2) := hs
      split at hs
      next n ha =>
        cases hs
        obtain ⟨hi, hsh⟩ := arrL_spec ha
        exact va_alen (x := (n, .inl (h.2.1 i))) (ty := .int) hx hb hK.1 hP i 0 (by rw [wsOf_at hi, cell_a0 hsh]) rfl rfl hd (K _ _ _ hl hP hS)
      next => cases hs
  next => cases hs
set_option maxHeartbeats 1000000 in
theorem zs_invokespecial (ix : Nat) {p : Program} {l : Launch} {e : Env} {R : Room} {s : State} {m : MethodId} {args : Array Value} {below : List Frame} {meth : Method} {c : Code} {D : va_G} {cT : CT} {β : Nat → Nat} {base : Nat} {me : ME} {Ts : List Cond} {n0 : Nat} {scr : Option (Nat × (Nat → Int32))} (C : Ctx p s m args meth c D cT base me Ts n0) (hsc : ScrOK scr β s base) (hβ : ∀ i, i < 4096 → β i = base + i) {pc len : Nat} {lv lv' : LV} {st st' : List Value} {h h2 : Hp} {pc' : Nat} (hs : zStep scr me.1 me.2.2.2.1 pc (isIni me) (.invokespecial ix) len lv st h = some (pc', lv', st', h2)) (hd : decode me.2.2.1 pc = .ok (.invokespecial ix, len)) (hlen : lenOK (.invokespecial ix) len = true) (hroom : rOKb me (pc, .invokespecial ix, len) = true) (hR : (me.2.2.2.2.2.2.1 ≤ R.frames ∧ me.2.2.2.2.2.2.2 ≤ R.locals) ∧ h2.1 - n0 ≤ R.cells ∧ szS h2.1 - szS n0 ≤ R.slots) (hn0 : n0 ≤ h.1) (h83 : h.1 ≤ 83) {H : Heap} {locs : List Loc} {ls : Array Slot} {Q : State → Prop} (hl : lv_has ls me.2.2.2.1 (cvL β lv)) (hP : va_P D vwCl (wsOf β cT h) H) (hS : va_S (fun q => base ≤ q) s.heap H locs)
    (K : ∀ (H' : Heap) (locs' : List Loc) (ls' : Array Slot), lv_has ls' me.2.2.2.1 (cvL β lv') → va_P D vwCl (wsOf β cT h2) H' → va_S (fun q => base ≤ q) s.heap H' locs' → W p l e R s m args below meth c H' locs' (h2.1 - n0) (szS h2.1 - szS n0) Q (F0 m pc' ls' (st'.map (cv β)))) :
    W p l e R s m args below meth c H locs (h.1 - n0) (szS h.1 - szS n0) Q (F0 m pc ls (st.map (cv β))) := by
  obtain ⟨hx, hb, hml, hown, hts, hG, hK, hsz, hmk, hini⟩ := C
  have hlen1 : len = 3 := Nat.eq_of_beq_eq_true hlen
  subst hlen1
  replace hs : ((match (generalizing := false) st with
    | .ref _ :: r => (match (generalizing := false) lkp (poolOf me.1) ix with
      | some (7, _, _, _) => bif Nat.ble (catS r) 8 then some (pc + 3, lv, r, h) else none
      | _ => none)
    | _ => none)) = some (pc', lv', st', h2) := hs
  split at hs
  next a r =>
    split at hs
    next a1 b1 v1 hp =>
      cases hb1 : Nat.ble (catS r) 8 with
      | false => rw [hb1] at hs; cases hs
      | true =>
        rw [hb1] at hs
        cases hs
        obtain ⟨w1, w2, w3⟩ := pool_O hp
        have hrm : 1 ≤ me.2.2.2.2.2.2.1 ∧ 20 ≤ me.2.2.2.2.2.2.2 := by
          replace hroom : rOKb.rOK2 me ix = true := hroom
          unfold rOKb.rOK2 at hroom
          rw [hp] at hroom
          simpa using hroom
        have hcs : ((st'.map (cv β)).map fun v => v.category).sum ≤ 8 := by
          have : catS st' ≤ 8 := by simpa using hb1
          simpa [catS, Function.comp_def, cv_cat] using this
        refine W.objInit (a := β a) (rest := st'.map (cv β)) hx hb hown (hts _ (hG _ w1)) (hts _ (hG _ w2)) (hts _ (hG _ w3)) rfl (by rw [hml]; exact hl.1) rfl hd (by omega) (by show 2 * 0 + _ + 12 ≤ R.locals; omega) ?_
        exact K _ _ _ hl hP hS
    next => cases hs
  next => cases hs
set_option maxHeartbeats 1000000 in
theorem zs_invokestatic (ix : Nat) {p : Program} {l : Launch} {e : Env} {R : Room} {s : State} {m : MethodId} {args : Array Value} {below : List Frame} {meth : Method} {c : Code} {D : va_G} {cT : CT} {β : Nat → Nat} {base : Nat} {me : ME} {Ts : List Cond} {n0 : Nat} {scr : Option (Nat × (Nat → Int32))} (C : Ctx p s m args meth c D cT base me Ts n0) (hsc : ScrOK scr β s base) (hβ : ∀ i, i < 4096 → β i = base + i) {pc len : Nat} {lv lv' : LV} {st st' : List Value} {h h2 : Hp} {pc' : Nat} (hs : zStep scr me.1 me.2.2.2.1 pc (isIni me) (.invokestatic ix) len lv st h = some (pc', lv', st', h2)) (hd : decode me.2.2.1 pc = .ok (.invokestatic ix, len)) (hlen : lenOK (.invokestatic ix) len = true) (hroom : rOKb me (pc, .invokestatic ix, len) = true) (hR : (me.2.2.2.2.2.2.1 ≤ R.frames ∧ me.2.2.2.2.2.2.2 ≤ R.locals) ∧ h2.1 - n0 ≤ R.cells ∧ szS h2.1 - szS n0 ≤ R.slots) (hn0 : n0 ≤ h.1) (h83 : h.1 ≤ 83) {H : Heap} {locs : List Loc} {ls : Array Slot} {Q : State → Prop} (hl : lv_has ls me.2.2.2.1 (cvL β lv)) (hP : va_P D vwCl (wsOf β cT h) H) (hS : va_S (fun q => base ≤ q) s.heap H locs)
    (K : ∀ (H' : Heap) (locs' : List Loc) (ls' : Array Slot), lv_has ls' me.2.2.2.1 (cvL β lv') → va_P D vwCl (wsOf β cT h2) H' → va_S (fun q => base ≤ q) s.heap H' locs' → W p l e R s m args below meth c H' locs' (h2.1 - n0) (szS h2.1 - szS n0) Q (F0 m pc' ls' (st'.map (cv β)))) :
    W p l e R s m args below meth c H locs (h.1 - n0) (szS h.1 - szS n0) Q (F0 m pc ls (st.map (cv β))) := by
  obtain ⟨hx, hb, hml, hown, hts, hG, hK, hsz, hmk, hini⟩ := C
  have hlen1 : len = 3 := Nat.eq_of_beq_eq_true hlen
  subst hlen1
  replace hs : ((match (generalizing := false) lkp (poolOf me.1) ix with
    | some (8, _, _, _) => (match (generalizing := false) st with
      | .int n :: .int dp :: .ref d :: .int sp :: .ref a :: r => (match (generalizing := false) arrL h a 0 with
        | some n0 => (match (generalizing := false) arrL h d 0 with
          | some n1 => bif decide (0 ≤ n.toInt) && decide (0 ≤ dp.toInt) && decide (0 ≤ sp.toInt) && Nat.ble (sp.toNatClampNeg + n.toNatClampNeg) n0 && Nat.ble (dp.toNatClampNeg + n.toNatClampNeg) n1 && Nat.ble (catS r) 8 then
              some (pc + 3, lv, r, (h.1, (fun x => if x = d then va_cpy (h.2.1 a) (h.2.1 d) sp.toNatClampNeg dp.toNatClampNeg n.toNatClampNeg else h.2.1 x), h.2.2)) else none
          | none => none)
        | none => none)
      | _ => none)
    | some (13, _, _, _) => (match (generalizing := false) st with
      | .int y :: .int x :: r => bif Nat.ble (catS r) 8 then some (pc + 3, lv, .int (if x < y then y else x) :: r, h) else none
      | _ => none)
    | some (14, _, _, _) => (match (generalizing := false) st with
      | .int y :: .int x :: r => bif Nat.ble (catS r) 8 then some (pc + 3, lv, .int (if y < x then y else x) :: r, h) else none
      | _ => none)
    | _ => none)) = some (pc', lv', st', h2) := hs
  split at hs
  next a1 b1 v1 hp =>
    split at hs
    next n dp d sp a r =>
      split at hs
      next na ha =>
        split at hs
        next nd hda =>
          cases hb1 : decide (0 ≤ n.toInt) && decide (0 ≤ dp.toInt) && decide (0 ≤ sp.toInt) && Nat.ble (sp.toNatClampNeg + n.toNatClampNeg) na && Nat.ble (dp.toNatClampNeg + n.toNatClampNeg) nd && Nat.ble (catS r) 8 with
          | false => rw [hb1] at hs; cases hs
          | true =>
            rw [hb1] at hs
            cases hs
            simp only [Bool.and_eq_true, decide_eq_true_eq, Nat.ble_eq] at hb1
            obtain ⟨⟨⟨⟨⟨q1, q2⟩, q3⟩, q4⟩, q5⟩, q6⟩ := hb1
            obtain ⟨w1, w2, w3, w4⟩ := pool_A hp
            obtain ⟨hi, hsh⟩ := arrL_spec ha
            obtain ⟨hdi, hdsh⟩ := arrL_spec hda
            have hrm : 1 ≤ me.2.2.2.2.2.2.1 ∧ 40 ≤ me.2.2.2.2.2.2.2 := by
              replace hroom : rOKb.rOK2 me ix = true := hroom
              unfold rOKb.rOK2 at hroom
              rw [hp] at hroom
              simpa using hroom
            have hcs : ((st'.map (cv β)).map fun v => v.category).sum ≤ 8 := by
              simpa [catS, Function.comp_def, cv_cat] using q6
            refine va_copyi (ty := .int) hx hb (by rw [hml]; exact hl.1.symm) hown (hts _ (hG _ w1)) (hts _ (hG _ w2)) (hts _ (hG _ w3)) (hts _ (hG _ w4)) hK.1 hP (wsOf_D (fun i hi => hβ i (by omega))) hS a d 0 0 (by rw [wsOf_at hi, cell_a0 hsh]) (by rw [wsOf_at hdi, cell_a0 hdsh]) rfl rfl rfl (nonneg_of q3) (nonneg_of q2) (nonneg_of q1) q4 q5 (fun _ _ => rfl) (by omega) (by
              have : nativeFrameWords "java/lang/System" "arraycopy" 5 = 7 := by decide +kernel
              rw [this]; omega) hd (fun H1 locs1 hP1 hD1 hS1 => ?_)
            have e0 := wsOf_set (β := β) (cT := cT) (h := h) (h' := (h.1, (fun x => if x = d then va_cpy (h.2.1 a) (h.2.1 d) sp.toNatClampNeg dp.toNatClampNeg n.toNatClampNeg else h.2.1 x), h.2.2)) (i := d) rfl (fun j hj => cell_same (if_neg hj) rfl)
            rw [cell_a0 hdsh, show ((h.1, (fun x => if x = d then va_cpy (h.2.1 a) (h.2.1 d) sp.toNatClampNeg dp.toNatClampNeg n.toNatClampNeg else h.2.1 x), h.2.2) : Hp).2.1 d = va_cpy (h.2.1 a) (h.2.1 d) sp.toNatClampNeg dp.toNatClampNeg n.toNatClampNeg from if_pos rfl] at e0
            rw [e0] at hP1
            exact K _ _ _ hl hP1 hS1
        next => cases hs
      next => cases hs
    next => cases hs
  next a1 b1 v1 hp =>
    split at hs
    next y x r =>
      cases hb1 : Nat.ble (catS r) 8 with
      | false => rw [hb1] at hs; cases hs
      | true =>
        rw [hb1] at hs
        cases hs
        obtain ⟨w1, w2, w3, w4⟩ := pool_max hp
        have hrm : 1 ≤ me.2.2.2.2.2.2.1 ∧ 40 ≤ me.2.2.2.2.2.2.2 := by
          replace hroom : rOKb.rOK2 me ix = true := hroom
          unfold rOKb.rOK2 at hroom
          rw [hp] at hroom
          simpa using hroom
        have hcs : ((r.map (cv β)).map fun v => v.category).sum ≤ 8 := by
          have : catS r ≤ 8 := by simpa using hb1
          simpa [catS, Function.comp_def, cv_cat] using this
        exact va_mmax hx hb (by rw [hml]; exact hl.1.symm) hown (hts _ (hG _ w1)) (hts _ (hG _ w2)) (hts _ (hG _ w3)) (hts _ (hG _ w4)) (by omega) (by omega) hR.2.1 hR.2.2 hd (K _ _ _ hl hP hS)
    next => cases hs
  next a1 b1 v1 hp =>
    split at hs
    next y x r =>
      cases hb1 : Nat.ble (catS r) 8 with
      | false => rw [hb1] at hs; cases hs
      | true =>
        rw [hb1] at hs
        cases hs
        obtain ⟨w1, w2, w3, w4⟩ := pool_min hp
        have hrm : 1 ≤ me.2.2.2.2.2.2.1 ∧ 40 ≤ me.2.2.2.2.2.2.2 := by
          replace hroom : rOKb.rOK2 me ix = true := hroom
          unfold rOKb.rOK2 at hroom
          rw [hp] at hroom
          simpa using hroom
        have hcs : ((r.map (cv β)).map fun v => v.category).sum ≤ 8 := by
          have : catS r ≤ 8 := by simpa using hb1
          simpa [catS, Function.comp_def, cv_cat] using this
        exact va_mmin hx hb (by rw [hml]; exact hl.1.symm) hown (hts _ (hG _ w1)) (hts _ (hG _ w2)) (hts _ (hG _ w3)) (hts _ (hG _ w4)) (by omega) (by omega) hR.2.1 hR.2.2 hd (K _ _ _ hl hP hS)
    next => cases hs
  next => cases hs
