/-! References stay within the cells and fields that there are; the constructors' run (written by wip/whole/gen61.py). -/
def RB (h : Hp) : Prop := ∀ i k, (83 ≤ i ∨ 40 ≤ k) → h.2.2 i k = none
def RK (h h2 : Hp) : Prop := h2.2.2 = h.2.2 ∨ (∃ i k v, i < 83 ∧ k < 40 ∧ h2.2.2 = up2 h.2.2 i k v) ∨ h2.2.2 = fun a => if a = h.1 then (fun _ => none) else h.2.2 a
theorem RK.use {h h2 : Hp} (hk : RK h h2) (hb : RB h) : RB h2 := by
  intro i k hik
  rcases hk with e | ⟨i', k', v, h1, h3, e⟩ | e
  · rw [e]; exact hb i k hik
  · rw [e]
    unfold up2
    by_cases hi : i = i'
    · rw [if_pos hi]
      by_cases hk : k = k'
      · omega
      · rw [if_neg hk]; exact hb i k hik
    · rw [if_neg hi]; exact hb i k hik
  · rw [e]
    show (if i = h.1 then (fun _ => none) else h.2.2 i) k = none
    by_cases hi : i = h.1
    · rw [if_pos hi]
    · rw [if_neg hi]; exact hb i k hik
theorem nF_lt (ci : Nat) : nF ci < 40 := by
  unfold nF
  split
  next l hl =>
    have h1 : fldR.all (fun l => Nat.blt l.length 40) = true := by decide +kernel
    have := List.all_eq_true.mp h1 l (List.mem_of_getElem? hl)
    simpa using this
  next => decide
theorem shp2_lt {i n : Nat} (h : shp[i]? = some (.inr (2, n))) : n < 40 := by
  have h1 : shp.all (fun x => match x with
    | .inl _ => true
    | .inr (t, n) => !(Nat.beq t 2) || Nat.blt n 40) = true := by decide +kernel
  have h2 := List.all_eq_true.mp h1 _ (List.mem_of_getElem? h)
  simpa using h2
theorem zr_iconst (i : Int) {scr : Option (Nat × (Nat → Int32))} {own nL pc len : Nat} {ini : Bool} {lv lv' : LV} {st st' : List Value} {h h2 : Hp} {pc' : Nat} (hs : zStep scr own nL pc ini (.iconst i) len lv st h = some (pc', lv', st', h2)) : RK h h2 := by
  replace hs : (some (pc + 1, lv, .int (Int32.ofInt i) :: st, h)) = some (pc', lv', st', h2) := hs
  cases hs; exact Or.inl rfl
theorem zr_bipush (i : Int) {scr : Option (Nat × (Nat → Int32))} {own nL pc len : Nat} {ini : Bool} {lv lv' : LV} {st st' : List Value} {h h2 : Hp} {pc' : Nat} (hs : zStep scr own nL pc ini (.bipush i) len lv st h = some (pc', lv', st', h2)) : RK h h2 := by
  replace hs : (some (pc + 2, lv, .int (Int8.ofInt i).toInt32 :: st, h)) = some (pc', lv', st', h2) := hs
  cases hs; exact Or.inl rfl
theorem zr_sipush (i : Int) {scr : Option (Nat × (Nat → Int32))} {own nL pc len : Nat} {ini : Bool} {lv lv' : LV} {st st' : List Value} {h h2 : Hp} {pc' : Nat} (hs : zStep scr own nL pc ini (.sipush i) len lv st h = some (pc', lv', st', h2)) : RK h h2 := by
  replace hs : (some (pc + 3, lv, .int (Int16.ofInt i).toInt32 :: st, h)) = some (pc', lv', st', h2) := hs
  cases hs; exact Or.inl rfl
theorem zr_lconst (i : Fin 2) {scr : Option (Nat × (Nat → Int32))} {own nL pc len : Nat} {ini : Bool} {lv lv' : LV} {st st' : List Value} {h h2 : Hp} {pc' : Nat} (hs : zStep scr own nL pc ini (.lconst i) len lv st h = some (pc', lv', st', h2)) : RK h h2 := by
  replace hs : (some (pc + 1, lv, .long (Int64.ofNat (i : Nat)) :: st, h)) = some (pc', lv', st', h2) := hs
  cases hs; exact Or.inl rfl
theorem zr_ldc (ix : Nat) {scr : Option (Nat × (Nat → Int32))} {own nL pc len : Nat} {ini : Bool} {lv lv' : LV} {st st' : List Value} {h h2 : Hp} {pc' : Nat} (hs : zStep scr own nL pc ini (.ldc ix) len lv st h = some (pc', lv', st', h2)) : RK h h2 := by
  replace hs : ((match (generalizing := false) lkp (poolOf own) ix with
    | some (9, _, _, v) => some (pc + 2, lv, .int (Int32.ofInt v) :: st, h)
    | _ => none)) = some (pc', lv', st', h2) := hs
  repeat' split at hs
  all_goals first | (cases hs; done) | (cases hs; exact Or.inl rfl)
theorem zr_ldc_w (ix : Nat) {scr : Option (Nat × (Nat → Int32))} {own nL pc len : Nat} {ini : Bool} {lv lv' : LV} {st st' : List Value} {h h2 : Hp} {pc' : Nat} (hs : zStep scr own nL pc ini (.ldc_w ix) len lv st h = some (pc', lv', st', h2)) : RK h h2 := by
  replace hs : ((match (generalizing := false) lkp (poolOf own) ix with
    | some (9, _, _, v) => some (pc + 3, lv, .int (Int32.ofInt v) :: st, h)
    | _ => none)) = some (pc', lv', st', h2) := hs
  repeat' split at hs
  all_goals first | (cases hs; done) | (cases hs; exact Or.inl rfl)
theorem zr_ldc2_w (ix : Nat) {scr : Option (Nat × (Nat → Int32))} {own nL pc len : Nat} {ini : Bool} {lv lv' : LV} {st st' : List Value} {h h2 : Hp} {pc' : Nat} (hs : zStep scr own nL pc ini (.ldc2_w ix) len lv st h = some (pc', lv', st', h2)) : RK h h2 := by
  replace hs : ((match (generalizing := false) lkp (poolOf own) ix with
    | some (10, _, _, v) => some (pc + 3, lv, .long (Int64.ofInt v) :: st, h)
    | _ => none)) = some (pc', lv', st', h2) := hs
  repeat' split at hs
  all_goals first | (cases hs; done) | (cases hs; exact Or.inl rfl)
theorem zr_iload_n (i : Fin 4) {scr : Option (Nat × (Nat → Int32))} {own nL pc len : Nat} {ini : Bool} {lv lv' : LV} {st st' : List Value} {h h2 : Hp} {pc' : Nat} (hs : zStep scr own nL pc ini (.iload_n i) len lv st h = some (pc', lv', st', h2)) : RK h h2 := by
  replace hs : ((match (generalizing := false) ldI lv i with
    | some x => some (pc + 1, lv, .int x :: st, h)
    | none => none)) = some (pc', lv', st', h2) := hs
  repeat' split at hs
  all_goals first | (cases hs; done) | (cases hs; exact Or.inl rfl)
theorem zr_iload (i : Nat) {scr : Option (Nat × (Nat → Int32))} {own nL pc len : Nat} {ini : Bool} {lv lv' : LV} {st st' : List Value} {h h2 : Hp} {pc' : Nat} (hs : zStep scr own nL pc ini (.iload i) len lv st h = some (pc', lv', st', h2)) : RK h h2 := by
  replace hs : ((match (generalizing := false) ldI lv i with
    | some x => some (pc + 2, lv, .int x :: st, h)
    | none => none)) = some (pc', lv', st', h2) := hs
  repeat' split at hs
  all_goals first | (cases hs; done) | (cases hs; exact Or.inl rfl)
theorem zr_lload_n (i : Fin 4) {scr : Option (Nat × (Nat → Int32))} {own nL pc len : Nat} {ini : Bool} {lv lv' : LV} {st st' : List Value} {h h2 : Hp} {pc' : Nat} (hs : zStep scr own nL pc ini (.lload_n i) len lv st h = some (pc', lv', st', h2)) : RK h h2 := by
  replace hs : ((match (generalizing := false) ldL lv i with
    | some x => some (pc + 1, lv, .long x :: st, h)
    | none => none)) = some (pc', lv', st', h2) := hs
  repeat' split at hs
  all_goals first | (cases hs; done) | (cases hs; exact Or.inl rfl)
theorem zr_lload (i : Nat) {scr : Option (Nat × (Nat → Int32))} {own nL pc len : Nat} {ini : Bool} {lv lv' : LV} {st st' : List Value} {h h2 : Hp} {pc' : Nat} (hs : zStep scr own nL pc ini (.lload i) len lv st h = some (pc', lv', st', h2)) : RK h h2 := by
  replace hs : ((match (generalizing := false) ldL lv i with
    | some x => some (pc + 2, lv, .long x :: st, h)
    | none => none)) = some (pc', lv', st', h2) := hs
  repeat' split at hs
  all_goals first | (cases hs; done) | (cases hs; exact Or.inl rfl)
theorem zr_aload_n (i : Fin 4) {scr : Option (Nat × (Nat → Int32))} {own nL pc len : Nat} {ini : Bool} {lv lv' : LV} {st st' : List Value} {h h2 : Hp} {pc' : Nat} (hs : zStep scr own nL pc ini (.aload_n i) len lv st h = some (pc', lv', st', h2)) : RK h h2 := by
  replace hs : ((match (generalizing := false) ldA lv i with
    | some x => some (pc + 1, lv, .ref x :: st, h)
    | none => none)) = some (pc', lv', st', h2) := hs
  repeat' split at hs
  all_goals first | (cases hs; done) | (cases hs; exact Or.inl rfl)
theorem zr_aload (i : Nat) {scr : Option (Nat × (Nat → Int32))} {own nL pc len : Nat} {ini : Bool} {lv lv' : LV} {st st' : List Value} {h h2 : Hp} {pc' : Nat} (hs : zStep scr own nL pc ini (.aload i) len lv st h = some (pc', lv', st', h2)) : RK h h2 := by
  replace hs : ((match (generalizing := false) ldA lv i with
    | some x => some (pc + 2, lv, .ref x :: st, h)
    | none => none)) = some (pc', lv', st', h2) := hs
  repeat' split at hs
  all_goals first | (cases hs; done) | (cases hs; exact Or.inl rfl)
theorem zr_istore_n (i : Fin 4) {scr : Option (Nat × (Nat → Int32))} {own nL pc len : Nat} {ini : Bool} {lv lv' : LV} {st st' : List Value} {h h2 : Hp} {pc' : Nat} (hs : zStep scr own nL pc ini (.istore_n i) len lv st h = some (pc', lv', st', h2)) : RK h h2 := by
  replace hs : ((match (generalizing := false) st with
    | .int x :: r => bif Nat.blt i nL then some (pc + 1, lvPut lv i (.int x), r, h) else none
    | _ => none)) = some (pc', lv', st', h2) := hs
  simp only [Bool.cond_eq_ite] at hs
  repeat' split at hs
  all_goals first | (cases hs; done) | (cases hs; exact Or.inl rfl)
theorem zr_istore (i : Nat) {scr : Option (Nat × (Nat → Int32))} {own nL pc len : Nat} {ini : Bool} {lv lv' : LV} {st st' : List Value} {h h2 : Hp} {pc' : Nat} (hs : zStep scr own nL pc ini (.istore i) len lv st h = some (pc', lv', st', h2)) : RK h h2 := by
  replace hs : ((match (generalizing := false) st with
    | .int x :: r => bif Nat.blt i nL then some (pc + 2, lvPut lv i (.int x), r, h) else none
    | _ => none)) = some (pc', lv', st', h2) := hs
  simp only [Bool.cond_eq_ite] at hs
  repeat' split at hs
  all_goals first | (cases hs; done) | (cases hs; exact Or.inl rfl)
theorem zr_lstore_n (i : Fin 4) {scr : Option (Nat × (Nat → Int32))} {own nL pc len : Nat} {ini : Bool} {lv lv' : LV} {st st' : List Value} {h h2 : Hp} {pc' : Nat} (hs : zStep scr own nL pc ini (.lstore_n i) len lv st h = some (pc', lv', st', h2)) : RK h h2 := by
  replace hs : ((match (generalizing := false) st with
    | .long x :: r => bif Nat.blt (i + 1) nL then some (pc + 1, lvPut2 lv i (.long x), r, h) else none
    | _ => none)) = some (pc', lv', st', h2) := hs
  simp only [Bool.cond_eq_ite] at hs
  repeat' split at hs
  all_goals first | (cases hs; done) | (cases hs; exact Or.inl rfl)
theorem zr_lstore (i : Nat) {scr : Option (Nat × (Nat → Int32))} {own nL pc len : Nat} {ini : Bool} {lv lv' : LV} {st st' : List Value} {h h2 : Hp} {pc' : Nat} (hs : zStep scr own nL pc ini (.lstore i) len lv st h = some (pc', lv', st', h2)) : RK h h2 := by
  replace hs : ((match (generalizing := false) st with
    | .long x :: r => bif Nat.blt (i + 1) nL then some (pc + 2, lvPut2 lv i (.long x), r, h) else none
    | _ => none)) = some (pc', lv', st', h2) := hs
  simp only [Bool.cond_eq_ite] at hs
  repeat' split at hs
  all_goals first | (cases hs; done) | (cases hs; exact Or.inl rfl)
theorem zr_astore_n (i : Fin 4) {scr : Option (Nat × (Nat → Int32))} {own nL pc len : Nat} {ini : Bool} {lv lv' : LV} {st st' : List Value} {h h2 : Hp} {pc' : Nat} (hs : zStep scr own nL pc ini (.astore_n i) len lv st h = some (pc', lv', st', h2)) : RK h h2 := by
  replace hs : ((match (generalizing := false) st with
    | .ref x :: r => bif Nat.blt i nL then some (pc + 1, lvPut lv i (.ref x), r, h) else none
    | _ => none)) = some (pc', lv', st', h2) := hs
  simp only [Bool.cond_eq_ite] at hs
  repeat' split at hs
  all_goals first | (cases hs; done) | (cases hs; exact Or.inl rfl)
theorem zr_astore (i : Nat) {scr : Option (Nat × (Nat → Int32))} {own nL pc len : Nat} {ini : Bool} {lv lv' : LV} {st st' : List Value} {h h2 : Hp} {pc' : Nat} (hs : zStep scr own nL pc ini (.astore i) len lv st h = some (pc', lv', st', h2)) : RK h h2 := by
  replace hs : ((match (generalizing := false) st with
    | .ref x :: r => bif Nat.blt i nL then some (pc + 2, lvPut lv i (.ref x), r, h) else none
    | _ => none)) = some (pc', lv', st', h2) := hs
  simp only [Bool.cond_eq_ite] at hs
  repeat' split at hs
  all_goals first | (cases hs; done) | (cases hs; exact Or.inl rfl)
theorem zr_iinc (i : Nat) (n : Int) {scr : Option (Nat × (Nat → Int32))} {own nL pc len : Nat} {ini : Bool} {lv lv' : LV} {st st' : List Value} {h h2 : Hp} {pc' : Nat} (hs : zStep scr own nL pc ini (.iinc i n) len lv st h = some (pc', lv', st', h2)) : RK h h2 := by
  replace hs : ((match (generalizing := false) ldI lv i with
    | some x => bif Nat.blt i nL then some (pc + 3, lvPut lv i (.int (x + Int32.ofInt n)), st, h) else none
    | none => none)) = some (pc', lv', st', h2) := hs
  simp only [Bool.cond_eq_ite] at hs
  repeat' split at hs
  all_goals first | (cases hs; done) | (cases hs; exact Or.inl rfl)
theorem zr_dup  {scr : Option (Nat × (Nat → Int32))} {own nL pc len : Nat} {ini : Bool} {lv lv' : LV} {st st' : List Value} {h h2 : Hp} {pc' : Nat} (hs : zStep scr own nL pc ini (.dup) len lv st h = some (pc', lv', st', h2)) : RK h h2 := by
  replace hs : ((match (generalizing := false) st with
    | v :: r => bif Nat.beq v.category 1 then some (pc + 1, lv, v :: v :: r, h) else none
    | _ => none)) = some (pc', lv', st', h2) := hs
  simp only [Bool.cond_eq_ite] at hs
  repeat' split at hs
  all_goals first | (cases hs; done) | (cases hs; exact Or.inl rfl)
theorem zr_dup2  {scr : Option (Nat × (Nat → Int32))} {own nL pc len : Nat} {ini : Bool} {lv lv' : LV} {st st' : List Value} {h h2 : Hp} {pc' : Nat} (hs : zStep scr own nL pc ini (.dup2) len lv st h = some (pc', lv', st', h2)) : RK h h2 := by
  replace hs : ((match (generalizing := false) st with
    | v :: w :: r => bif Nat.beq v.category 1 && Nat.beq w.category 1 then some (pc + 1, lv, v :: w :: v :: w :: r, h) else none
    | _ => none)) = some (pc', lv', st', h2) := hs
  simp only [Bool.cond_eq_ite] at hs
  repeat' split at hs
  all_goals first | (cases hs; done) | (cases hs; exact Or.inl rfl)
theorem zr_pop  {scr : Option (Nat × (Nat → Int32))} {own nL pc len : Nat} {ini : Bool} {lv lv' : LV} {st st' : List Value} {h h2 : Hp} {pc' : Nat} (hs : zStep scr own nL pc ini (.pop) len lv st h = some (pc', lv', st', h2)) : RK h h2 := by
  replace hs : ((match (generalizing := false) st with
    | v :: r => bif Nat.beq v.category 1 then some (pc + 1, lv, r, h) else none
    | _ => none)) = some (pc', lv', st', h2) := hs
  simp only [Bool.cond_eq_ite] at hs
  repeat' split at hs
  all_goals first | (cases hs; done) | (cases hs; exact Or.inl rfl)
theorem zr_iadd  {scr : Option (Nat × (Nat → Int32))} {own nL pc len : Nat} {ini : Bool} {lv lv' : LV} {st st' : List Value} {h h2 : Hp} {pc' : Nat} (hs : zStep scr own nL pc ini (.iadd) len lv st h = some (pc', lv', st', h2)) : RK h h2 := by
  replace hs : ((match (generalizing := false) st with
    | .int y :: .int x :: r => some (pc + 1, lv, .int (x + y) :: r, h)
    | _ => none)) = some (pc', lv', st', h2) := hs
  repeat' split at hs
  all_goals first | (cases hs; done) | (cases hs; exact Or.inl rfl)
theorem zr_isub  {scr : Option (Nat × (Nat → Int32))} {own nL pc len : Nat} {ini : Bool} {lv lv' : LV} {st st' : List Value} {h h2 : Hp} {pc' : Nat} (hs : zStep scr own nL pc ini (.isub) len lv st h = some (pc', lv', st', h2)) : RK h h2 := by
  replace hs : ((match (generalizing := false) st with
    | .int y :: .int x :: r => some (pc + 1, lv, .int (x - y) :: r, h)
    | _ => none)) = some (pc', lv', st', h2) := hs
  repeat' split at hs
  all_goals first | (cases hs; done) | (cases hs; exact Or.inl rfl)
theorem zr_imul  {scr : Option (Nat × (Nat → Int32))} {own nL pc len : Nat} {ini : Bool} {lv lv' : LV} {st st' : List Value} {h h2 : Hp} {pc' : Nat} (hs : zStep scr own nL pc ini (.imul) len lv st h = some (pc', lv', st', h2)) : RK h h2 := by
  replace hs : ((match (generalizing := false) st with
    | .int y :: .int x :: r => some (pc + 1, lv, .int (x * y) :: r, h)
    | _ => none)) = some (pc', lv', st', h2) := hs
  repeat' split at hs
  all_goals first | (cases hs; done) | (cases hs; exact Or.inl rfl)
theorem zr_idiv  {scr : Option (Nat × (Nat → Int32))} {own nL pc len : Nat} {ini : Bool} {lv lv' : LV} {st st' : List Value} {h h2 : Hp} {pc' : Nat} (hs : zStep scr own nL pc ini (.idiv) len lv st h = some (pc', lv', st', h2)) : RK h h2 := by
  replace hs : ((match (generalizing := false) st with
    | .int y :: .int x :: r => if y = 0 then none else some (pc + 1, lv, .int (x / y) :: r, h)
    | _ => none)) = some (pc', lv', st', h2) := hs
  repeat' split at hs
  all_goals first | (cases hs; done) | (cases hs; exact Or.inl rfl)
theorem zr_irem  {scr : Option (Nat × (Nat → Int32))} {own nL pc len : Nat} {ini : Bool} {lv lv' : LV} {st st' : List Value} {h h2 : Hp} {pc' : Nat} (hs : zStep scr own nL pc ini (.irem) len lv st h = some (pc', lv', st', h2)) : RK h h2 := by
  replace hs : ((match (generalizing := false) st with
    | .int y :: .int x :: r => if y = 0 then none else some (pc + 1, lv, .int (x - x / y * y) :: r, h)
    | _ => none)) = some (pc', lv', st', h2) := hs
  repeat' split at hs
  all_goals first | (cases hs; done) | (cases hs; exact Or.inl rfl)
theorem zr_ineg  {scr : Option (Nat × (Nat → Int32))} {own nL pc len : Nat} {ini : Bool} {lv lv' : LV} {st st' : List Value} {h h2 : Hp} {pc' : Nat} (hs : zStep scr own nL pc ini (.ineg) len lv st h = some (pc', lv', st', h2)) : RK h h2 := by
  replace hs : ((match (generalizing := false) st with
    | .int x :: r => some (pc + 1, lv, .int (-x) :: r, h)
    | _ => none)) = some (pc', lv', st', h2) := hs
  repeat' split at hs
  all_goals first | (cases hs; done) | (cases hs; exact Or.inl rfl)
theorem zr_ishl  {scr : Option (Nat × (Nat → Int32))} {own nL pc len : Nat} {ini : Bool} {lv lv' : LV} {st st' : List Value} {h h2 : Hp} {pc' : Nat} (hs : zStep scr own nL pc ini (.ishl) len lv st h = some (pc', lv', st', h2)) : RK h h2 := by
  replace hs : ((match (generalizing := false) st with
    | .int y :: .int x :: r => some (pc + 1, lv, .int (x <<< (y &&& 31)) :: r, h)
    | _ => none)) = some (pc', lv', st', h2) := hs
  repeat' split at hs
  all_goals first | (cases hs; done) | (cases hs; exact Or.inl rfl)
theorem zr_ishr  {scr : Option (Nat × (Nat → Int32))} {own nL pc len : Nat} {ini : Bool} {lv lv' : LV} {st st' : List Value} {h h2 : Hp} {pc' : Nat} (hs : zStep scr own nL pc ini (.ishr) len lv st h = some (pc', lv', st', h2)) : RK h h2 := by
  replace hs : ((match (generalizing := false) st with
    | .int y :: .int x :: r => some (pc + 1, lv, .int (x >>> (y &&& 31)) :: r, h)
    | _ => none)) = some (pc', lv', st', h2) := hs
  repeat' split at hs
  all_goals first | (cases hs; done) | (cases hs; exact Or.inl rfl)
theorem zr_iushr  {scr : Option (Nat × (Nat → Int32))} {own nL pc len : Nat} {ini : Bool} {lv lv' : LV} {st st' : List Value} {h h2 : Hp} {pc' : Nat} (hs : zStep scr own nL pc ini (.iushr) len lv st h = some (pc', lv', st', h2)) : RK h h2 := by
  replace hs : ((match (generalizing := false) st with
    | .int y :: .int x :: r => some (pc + 1, lv, .int (x.toUInt32 >>> (y.toUInt32 &&& Int32.toUInt32 31)).toInt32 :: r, h)
    | _ => none)) = some (pc', lv', st', h2) := hs
  repeat' split at hs
  all_goals first | (cases hs; done) | (cases hs; exact Or.inl rfl)
theorem zr_iand  {scr : Option (Nat × (Nat → Int32))} {own nL pc len : Nat} {ini : Bool} {lv lv' : LV} {st st' : List Value} {h h2 : Hp} {pc' : Nat} (hs : zStep scr own nL pc ini (.iand) len lv st h = some (pc', lv', st', h2)) : RK h h2 := by
  replace hs : ((match (generalizing := false) st with
    | .int y :: .int x :: r => some (pc + 1, lv, .int (x &&& y) :: r, h)
    | _ => none)) = some (pc', lv', st', h2) := hs
  repeat' split at hs
  all_goals first | (cases hs; done) | (cases hs; exact Or.inl rfl)
theorem zr_ior  {scr : Option (Nat × (Nat → Int32))} {own nL pc len : Nat} {ini : Bool} {lv lv' : LV} {st st' : List Value} {h h2 : Hp} {pc' : Nat} (hs : zStep scr own nL pc ini (.ior) len lv st h = some (pc', lv', st', h2)) : RK h h2 := by
  replace hs : ((match (generalizing := false) st with
    | .int y :: .int x :: r => some (pc + 1, lv, .int (x ||| y) :: r, h)
    | _ => none)) = some (pc', lv', st', h2) := hs
  repeat' split at hs
  all_goals first | (cases hs; done) | (cases hs; exact Or.inl rfl)
theorem zr_ixor  {scr : Option (Nat × (Nat → Int32))} {own nL pc len : Nat} {ini : Bool} {lv lv' : LV} {st st' : List Value} {h h2 : Hp} {pc' : Nat} (hs : zStep scr own nL pc ini (.ixor) len lv st h = some (pc', lv', st', h2)) : RK h h2 := by
  replace hs : ((match (generalizing := false) st with
    | .int y :: .int x :: r => some (pc + 1, lv, .int (x ^^^ y) :: r, h)
    | _ => none)) = some (pc', lv', st', h2) := hs
  repeat' split at hs
  all_goals first | (cases hs; done) | (cases hs; exact Or.inl rfl)
theorem zr_i2l  {scr : Option (Nat × (Nat → Int32))} {own nL pc len : Nat} {ini : Bool} {lv lv' : LV} {st st' : List Value} {h h2 : Hp} {pc' : Nat} (hs : zStep scr own nL pc ini (.i2l) len lv st h = some (pc', lv', st', h2)) : RK h h2 := by
  replace hs : ((match (generalizing := false) st with
    | .int x :: r => some (pc + 1, lv, .long x.toInt64 :: r, h)
    | _ => none)) = some (pc', lv', st', h2) := hs
  repeat' split at hs
  all_goals first | (cases hs; done) | (cases hs; exact Or.inl rfl)
theorem zr_i2b  {scr : Option (Nat × (Nat → Int32))} {own nL pc len : Nat} {ini : Bool} {lv lv' : LV} {st st' : List Value} {h h2 : Hp} {pc' : Nat} (hs : zStep scr own nL pc ini (.i2b) len lv st h = some (pc', lv', st', h2)) : RK h h2 := by
  replace hs : ((match (generalizing := false) st with
    | .int x :: r => some (pc + 1, lv, .int x.toInt8.toInt32 :: r, h)
    | _ => none)) = some (pc', lv', st', h2) := hs
  repeat' split at hs
  all_goals first | (cases hs; done) | (cases hs; exact Or.inl rfl)
theorem zr_l2i  {scr : Option (Nat × (Nat → Int32))} {own nL pc len : Nat} {ini : Bool} {lv lv' : LV} {st st' : List Value} {h h2 : Hp} {pc' : Nat} (hs : zStep scr own nL pc ini (.l2i) len lv st h = some (pc', lv', st', h2)) : RK h h2 := by
  replace hs : ((match (generalizing := false) st with
    | .long x :: r => some (pc + 1, lv, .int x.toInt32 :: r, h)
    | _ => none)) = some (pc', lv', st', h2) := hs
  repeat' split at hs
  all_goals first | (cases hs; done) | (cases hs; exact Or.inl rfl)
theorem zr_ladd  {scr : Option (Nat × (Nat → Int32))} {own nL pc len : Nat} {ini : Bool} {lv lv' : LV} {st st' : List Value} {h h2 : Hp} {pc' : Nat} (hs : zStep scr own nL pc ini (.ladd) len lv st h = some (pc', lv', st', h2)) : RK h h2 := by
  replace hs : ((match (generalizing := false) st with
    | .long y :: .long x :: r => some (pc + 1, lv, .long (x + y) :: r, h)
    | _ => none)) = some (pc', lv', st', h2) := hs
  repeat' split at hs
  all_goals first | (cases hs; done) | (cases hs; exact Or.inl rfl)
theorem zr_lsub  {scr : Option (Nat × (Nat → Int32))} {own nL pc len : Nat} {ini : Bool} {lv lv' : LV} {st st' : List Value} {h h2 : Hp} {pc' : Nat} (hs : zStep scr own nL pc ini (.lsub) len lv st h = some (pc', lv', st', h2)) : RK h h2 := by
  replace hs : ((match (generalizing := false) st with
    | .long y :: .long x :: r => some (pc + 1, lv, .long (x - y) :: r, h)
    | _ => none)) = some (pc', lv', st', h2) := hs
  repeat' split at hs
  all_goals first | (cases hs; done) | (cases hs; exact Or.inl rfl)
theorem zr_lmul  {scr : Option (Nat × (Nat → Int32))} {own nL pc len : Nat} {ini : Bool} {lv lv' : LV} {st st' : List Value} {h h2 : Hp} {pc' : Nat} (hs : zStep scr own nL pc ini (.lmul) len lv st h = some (pc', lv', st', h2)) : RK h h2 := by
  replace hs : ((match (generalizing := false) st with
    | .long y :: .long x :: r => some (pc + 1, lv, .long (x * y) :: r, h)
    | _ => none)) = some (pc', lv', st', h2) := hs
  repeat' split at hs
  all_goals first | (cases hs; done) | (cases hs; exact Or.inl rfl)
theorem zr_ldiv  {scr : Option (Nat × (Nat → Int32))} {own nL pc len : Nat} {ini : Bool} {lv lv' : LV} {st st' : List Value} {h h2 : Hp} {pc' : Nat} (hs : zStep scr own nL pc ini (.ldiv) len lv st h = some (pc', lv', st', h2)) : RK h h2 := by
  replace hs : ((match (generalizing := false) st with
    | .long y :: .long x :: r => if y = 0 then none else some (pc + 1, lv, .long (x / y) :: r, h)
    | _ => none)) = some (pc', lv', st', h2) := hs
  repeat' split at hs
  all_goals first | (cases hs; done) | (cases hs; exact Or.inl rfl)
theorem zr_lrem  {scr : Option (Nat × (Nat → Int32))} {own nL pc len : Nat} {ini : Bool} {lv lv' : LV} {st st' : List Value} {h h2 : Hp} {pc' : Nat} (hs : zStep scr own nL pc ini (.lrem) len lv st h = some (pc', lv', st', h2)) : RK h h2 := by
  replace hs : ((match (generalizing := false) st with
    | .long y :: .long x :: r => if y = 0 then none else some (pc + 1, lv, .long (x - x / y * y) :: r, h)
    | _ => none)) = some (pc', lv', st', h2) := hs
  repeat' split at hs
  all_goals first | (cases hs; done) | (cases hs; exact Or.inl rfl)
theorem zr_land  {scr : Option (Nat × (Nat → Int32))} {own nL pc len : Nat} {ini : Bool} {lv lv' : LV} {st st' : List Value} {h h2 : Hp} {pc' : Nat} (hs : zStep scr own nL pc ini (.land) len lv st h = some (pc', lv', st', h2)) : RK h h2 := by
  replace hs : ((match (generalizing := false) st with
    | .long y :: .long x :: r => some (pc + 1, lv, .long (x &&& y) :: r, h)
    | _ => none)) = some (pc', lv', st', h2) := hs
  repeat' split at hs
  all_goals first | (cases hs; done) | (cases hs; exact Or.inl rfl)
theorem zr_lor  {scr : Option (Nat × (Nat → Int32))} {own nL pc len : Nat} {ini : Bool} {lv lv' : LV} {st st' : List Value} {h h2 : Hp} {pc' : Nat} (hs : zStep scr own nL pc ini (.lor) len lv st h = some (pc', lv', st', h2)) : RK h h2 := by
  replace hs : ((match (generalizing := false) st with
    | .long y :: .long x :: r => some (pc + 1, lv, .long (x ||| y) :: r, h)
    | _ => none)) = some (pc', lv', st', h2) := hs
  repeat' split at hs
  all_goals first | (cases hs; done) | (cases hs; exact Or.inl rfl)
theorem zr_lshl  {scr : Option (Nat × (Nat → Int32))} {own nL pc len : Nat} {ini : Bool} {lv lv' : LV} {st st' : List Value} {h h2 : Hp} {pc' : Nat} (hs : zStep scr own nL pc ini (.lshl) len lv st h = some (pc', lv', st', h2)) : RK h h2 := by
  replace hs : ((match (generalizing := false) st with
    | .int y :: .long x :: r => some (pc + 1, lv, .long (x <<< (y.toInt64 &&& 63)) :: r, h)
    | _ => none)) = some (pc', lv', st', h2) := hs
  repeat' split at hs
  all_goals first | (cases hs; done) | (cases hs; exact Or.inl rfl)
theorem zr_lshr  {scr : Option (Nat × (Nat → Int32))} {own nL pc len : Nat} {ini : Bool} {lv lv' : LV} {st st' : List Value} {h h2 : Hp} {pc' : Nat} (hs : zStep scr own nL pc ini (.lshr) len lv st h = some (pc', lv', st', h2)) : RK h h2 := by
  replace hs : ((match (generalizing := false) st with
    | .int y :: .long x :: r => some (pc + 1, lv, .long (x >>> (y.toInt64 &&& 63)) :: r, h)
    | _ => none)) = some (pc', lv', st', h2) := hs
  repeat' split at hs
  all_goals first | (cases hs; done) | (cases hs; exact Or.inl rfl)
theorem zr_lcmp  {scr : Option (Nat × (Nat → Int32))} {own nL pc len : Nat} {ini : Bool} {lv lv' : LV} {st st' : List Value} {h h2 : Hp} {pc' : Nat} (hs : zStep scr own nL pc ini (.lcmp) len lv st h = some (pc', lv', st', h2)) : RK h h2 := by
  replace hs : ((match (generalizing := false) st with
    | .long y :: .long x :: r => some (pc + 1, lv, .int (lg_cmp x y) :: r, h)
    | _ => none)) = some (pc', lv', st', h2) := hs
  repeat' split at hs
  all_goals first | (cases hs; done) | (cases hs; exact Or.inl rfl)
theorem zr_goto (off : Int) {scr : Option (Nat × (Nat → Int32))} {own nL pc len : Nat} {ini : Bool} {lv lv' : LV} {st st' : List Value} {h h2 : Hp} {pc' : Nat} (hs : zStep scr own nL pc ini (.goto off) len lv st h = some (pc', lv', st', h2)) : RK h h2 := by
  replace hs : ((match (generalizing := false) jmp pc off with
    | some t => some (t, lv, st, h)
    | none => none)) = some (pc', lv', st', h2) := hs
  repeat' split at hs
  all_goals first | (cases hs; done) | (cases hs; exact Or.inl rfl)
theorem zr_if_icmp (c0 : ClassFile.Cond) (off : Int) {scr : Option (Nat × (Nat → Int32))} {own nL pc len : Nat} {ini : Bool} {lv lv' : LV} {st st' : List Value} {h h2 : Hp} {pc' : Nat} (hs : zStep scr own nL pc ini (.if_icmp c0 off) len lv st h = some (pc', lv', st', h2)) : RK h h2 := by
  replace hs : ((match (generalizing := false) st with
    | .int y :: .int x :: r => (match (generalizing := false) jmp pc off with
      | some t => if cnd c0 x y = true then some (t, lv, r, h) else some (pc + 3, lv, r, h)
      | none => none)
    | _ => none)) = some (pc', lv', st', h2) := hs
  repeat' split at hs
  all_goals first | (cases hs; done) | (cases hs; exact Or.inl rfl)
theorem zr_ifCond (c0 : ClassFile.Cond) (off : Int) {scr : Option (Nat × (Nat → Int32))} {own nL pc len : Nat} {ini : Bool} {lv lv' : LV} {st st' : List Value} {h h2 : Hp} {pc' : Nat} (hs : zStep scr own nL pc ini (.ifCond c0 off) len lv st h = some (pc', lv', st', h2)) : RK h h2 := by
  replace hs : ((match (generalizing := false) st with
    | .int x :: r => (match (generalizing := false) jmp pc off with
      | some t => if cnd c0 x 0 = true then some (t, lv, r, h) else some (pc + 3, lv, r, h)
      | none => none)
    | _ => none)) = some (pc', lv', st', h2) := hs
  repeat' split at hs
  all_goals first | (cases hs; done) | (cases hs; exact Or.inl rfl)
theorem zr_tableswitch (d lo hi : Int) (offs : Array Int) {scr : Option (Nat × (Nat → Int32))} {own nL pc len : Nat} {ini : Bool} {lv lv' : LV} {st st' : List Value} {h h2 : Hp} {pc' : Nat} (hs : zStep scr own nL pc ini (.tableswitch d lo hi offs) len lv st h = some (pc', lv', st', h2)) : RK h h2 := by
  replace hs : ((match (generalizing := false) st with
    | .int x :: r => if x.toInt < lo ∨ hi < x.toInt then (match (generalizing := false) jmp pc d with
        | some t => some (t, lv, r, h)
        | none => none) else (match (generalizing := false) offs[(x.toInt - lo).toNat]? with
        | some off => (match (generalizing := false) jmp pc off with
          | some t => some (t, lv, r, h)
          | none => none)
        | none => none)
    | _ => none)) = some (pc', lv', st', h2) := hs
  repeat' split at hs
  all_goals first | (cases hs; done) | (cases hs; exact Or.inl rfl)
theorem zr_lookupswitch (d : Int) (ps : Array (Int × Int)) {scr : Option (Nat × (Nat → Int32))} {own nL pc len : Nat} {ini : Bool} {lv lv' : LV} {st st' : List Value} {h h2 : Hp} {pc' : Nat} (hs : zStep scr own nL pc ini (.lookupswitch d ps) len lv st h = some (pc', lv', st', h2)) : RK h h2 := by
  replace hs : ((match (generalizing := false) st with
    | .int x :: r => bif (ps.toList.zip (ps.toList.drop 1)).all (fun (a, next) => a.1 < next.1) then (match (generalizing := false) jmp pc (Op.lookupswitch.offset ps.toList d x.toInt) with
        | some t => some (t, lv, r, h)
        | none => none) else none
    | _ => none)) = some (pc', lv', st', h2) := hs
  simp only [Bool.cond_eq_ite] at hs
  repeat' split at hs
  all_goals first | (cases hs; done) | (cases hs; exact Or.inl rfl)
theorem zr_getfield (ix : Nat) {scr : Option (Nat × (Nat → Int32))} {own nL pc len : Nat} {ini : Bool} {lv lv' : LV} {st st' : List Value} {h h2 : Hp} {pc' : Nat} (hs : zStep scr own nL pc ini (.getfield ix) len lv st h = some (pc', lv', st', h2)) : RK h h2 := by
  replace hs : ((match (generalizing := false) st with
    | .ref i :: r => (match (generalizing := false) lkp (poolOf own) ix with
      | some (0, ci, k, _) => bif isO h i ci && Nat.blt k (nF ci) then some (pc + 3, lv, (bif isR ci k then rfV (h.2.2 i k) else .int (h.2.1 i k)) :: r, h) else none
      | some (1, ci, k, _) => bif isO h i ci && Nat.blt k (nF ci) then some (pc + 3, lv, (bif isR ci k then rfV (h.2.2 i k) else .int (h.2.1 i k)) :: r, h) else none
      | _ => none)
    | _ => none)) = some (pc', lv', st', h2) := hs
  simp only [Bool.cond_eq_ite] at hs
  repeat' split at hs
  all_goals first | (cases hs; done) | (cases hs; exact Or.inl rfl)
theorem zr_putfield (ix : Nat) {scr : Option (Nat × (Nat → Int32))} {own nL pc len : Nat} {ini : Bool} {lv lv' : LV} {st st' : List Value} {h h2 : Hp} {pc' : Nat} (hs : zStep scr own nL pc ini (.putfield ix) len lv st h = some (pc', lv', st', h2)) : RK h h2 := by
  replace hs : ((match (generalizing := false) st with
    | .int x :: .ref i :: r => (match (generalizing := false) lkp (poolOf own) ix with
      | some (0, ci, k, _) => bif isO h i ci && Nat.blt k (nF ci) && !isR ci k && !finF ci k then some (pc + 3, lv, r, (h.1, up2 h.2.1 i k x, h.2.2)) else none
      | some (1, ci, k, _) => bif isO h i ci && Nat.blt k (nF ci) && !isR ci k && !finF ci k then some (pc + 3, lv, r, (h.1, up2 h.2.1 i k x, h.2.2)) else none
      | _ => none)
    | .ref x :: .ref i :: r => (match (generalizing := false) lkp (poolOf own) ix with
      | some (0, ci, k, _) => bif isO h i ci && Nat.blt k (nF ci) && isR ci k && (!finF ci k || (ini && Nat.beq own ci)) then some (pc + 3, lv, r, (h.1, h.2.1, up2 h.2.2 i k (some x))) else none
      | _ => none)
    | _ => none)) = some (pc', lv', st', h2) := hs
  simp only [Bool.cond_eq_ite] at hs
  repeat' split at hs
  all_goals first | (cases hs; done) | (cases hs; exact Or.inl rfl) | skip
  all_goals
    cases hs
    rename_i hq
    simp only [Bool.and_eq_true] at hq
    exact Or.inr (Or.inl ⟨_, _, _, shp_lt (isO_spec hq.1.1.1).2, Nat.lt_of_lt_of_le (by simpa using hq.1.1.2) (Nat.le_of_lt (nF_lt _)), rfl⟩)
theorem zr_iaload  {scr : Option (Nat × (Nat → Int32))} {own nL pc len : Nat} {ini : Bool} {lv lv' : LV} {st st' : List Value} {h h2 : Hp} {pc' : Nat} (hs : zStep scr own nL pc ini (.iaload) len lv st h = some (pc', lv', st', h2)) : RK h h2 := by
  replace hs : ((match (generalizing := false) st with
    | .int j :: .ref i :: r => bif Nat.beq i sId then (match (generalizing := false) scr with
      | some (L, xs) => bif inB j L then some (pc + 1, lv, .int (xs j.toNatClampNeg) :: r, h) else none
      | none => none) else (match (generalizing := false) arrL h i 0 with
      | some n => bif inB j n then some (pc + 1, lv, .int (h.2.1 i j.toNatClampNeg) :: r, h) else none
      | none => none)
    | _ => none)) = some (pc', lv', st', h2) := hs
  simp only [Bool.cond_eq_ite] at hs
  repeat' split at hs
  all_goals first | (cases hs; done) | (cases hs; exact Or.inl rfl)
theorem zr_baload  {scr : Option (Nat × (Nat → Int32))} {own nL pc len : Nat} {ini : Bool} {lv lv' : LV} {st st' : List Value} {h h2 : Hp} {pc' : Nat} (hs : zStep scr own nL pc ini (.baload) len lv st h = some (pc', lv', st', h2)) : RK h h2 := by
  replace hs : ((match (generalizing := false) st with
    | .int j :: .ref i :: r => (match (generalizing := false) arrL h i 1 with
      | some n => bif inB j n then some (pc + 1, lv, .int (h.2.1 i j.toNatClampNeg) :: r, h) else none
      | none => none)
    | _ => none)) = some (pc', lv', st', h2) := hs
  simp only [Bool.cond_eq_ite] at hs
  repeat' split at hs
  all_goals first | (cases hs; done) | (cases hs; exact Or.inl rfl)
theorem zr_aaload  {scr : Option (Nat × (Nat → Int32))} {own nL pc len : Nat} {ini : Bool} {lv lv' : LV} {st st' : List Value} {h h2 : Hp} {pc' : Nat} (hs : zStep scr own nL pc ini (.aaload) len lv st h = some (pc', lv', st', h2)) : RK h h2 := by
  replace hs : ((match (generalizing := false) st with
    | .int j :: .ref i :: r => (match (generalizing := false) arrL h i 2 with
      | some n => bif inB j n then some (pc + 1, lv, rfV (h.2.2 i j.toNatClampNeg) :: r, h) else none
      | none => none)
    | _ => none)) = some (pc', lv', st', h2) := hs
  simp only [Bool.cond_eq_ite] at hs
  repeat' split at hs
  all_goals first | (cases hs; done) | (cases hs; exact Or.inl rfl)
theorem zr_iastore  {scr : Option (Nat × (Nat → Int32))} {own nL pc len : Nat} {ini : Bool} {lv lv' : LV} {st st' : List Value} {h h2 : Hp} {pc' : Nat} (hs : zStep scr own nL pc ini (.iastore) len lv st h = some (pc', lv', st', h2)) : RK h h2 := by
  replace hs : ((match (generalizing := false) st with
    | .int x :: .int j :: .ref i :: r => (match (generalizing := false) arrL h i 0 with
      | some n => bif inB j n then some (pc + 1, lv, r, (h.1, up2 h.2.1 i j.toNatClampNeg x, h.2.2)) else none
      | none => none)
    | _ => none)) = some (pc', lv', st', h2) := hs
  simp only [Bool.cond_eq_ite] at hs
  repeat' split at hs
  all_goals first | (cases hs; done) | (cases hs; exact Or.inl rfl)
theorem zr_bastore  {scr : Option (Nat × (Nat → Int32))} {own nL pc len : Nat} {ini : Bool} {lv lv' : LV} {st st' : List Value} {h h2 : Hp} {pc' : Nat} (hs : zStep scr own nL pc ini (.bastore) len lv st h = some (pc', lv', st', h2)) : RK h h2 := by
  replace hs : ((match (generalizing := false) st with
    | .int x :: .int j :: .ref i :: r => (match (generalizing := false) arrL h i 1 with
      | some n => bif inB j n then some (pc + 1, lv, r, (h.1, up2 h.2.1 i j.toNatClampNeg (vp_nar .byte x), h.2.2)) else none
      | none => none)
    | _ => none)) = some (pc', lv', st', h2) := hs
  simp only [Bool.cond_eq_ite] at hs
  repeat' split at hs
  all_goals first | (cases hs; done) | (cases hs; exact Or.inl rfl)
theorem zr_aastore  {scr : Option (Nat × (Nat → Int32))} {own nL pc len : Nat} {ini : Bool} {lv lv' : LV} {st st' : List Value} {h h2 : Hp} {pc' : Nat} (hs : zStep scr own nL pc ini (.aastore) len lv st h = some (pc', lv', st', h2)) : RK h h2 := by
  replace hs : ((match (generalizing := false) st with
    | .ref x :: .int j :: .ref i :: r => (match (generalizing := false) arrL h i 2 with
      | some n => bif inB j n && isO h x 5 then some (pc + 1, lv, r, (h.1, h.2.1, up2 h.2.2 i j.toNatClampNeg (some x))) else none
      | none => none)
    | _ => none)) = some (pc', lv', st', h2) := hs
  simp only [Bool.cond_eq_ite] at hs
  repeat' split at hs
  all_goals first | (cases hs; done) | skip
  all_goals
    cases hs
    rename_i ha hq
    simp only [Bool.and_eq_true] at hq
    have hn := shp2_lt (arrL_spec ha).2
    have hj := vp_in_iff.mp (inB_spec hq.1)
    refine Or.inr (Or.inl ⟨_, _, _, shp_lt (arrL_spec ha).2, ?_, rfl⟩)
    have := Nat.not_le.mp (fun q => inB_spec hq.1 (Or.inr q))
    omega
theorem zr_arraylength  {scr : Option (Nat × (Nat → Int32))} {own nL pc len : Nat} {ini : Bool} {lv lv' : LV} {st st' : List Value} {h h2 : Hp} {pc' : Nat} (hs : zStep scr own nL pc ini (.arraylength) len lv st h = some (pc', lv', st', h2)) : RK h h2 := by
  replace hs : ((match (generalizing := false) st with
    | .ref i :: r => bif Nat.beq i sId then (match (generalizing := false) scr with
      | some (L, _) => some (pc + 1, lv, .int (Int32.ofNat L) :: r, h)
      | none => none) else (match (generalizing := false) arrL h i 0 with
      | some n => some (pc + 1, lv, .int (Int32.ofNat n) :: r, h)
      | none => none)
    | _ => none)) = some (pc', lv', st', h2) := hs
  simp only [Bool.cond_eq_ite] at hs
  repeat' split at hs
  all_goals first | (cases hs; done) | (cases hs; exact Or.inl rfl)
theorem zr_new (ix : Nat) {scr : Option (Nat × (Nat → Int32))} {own nL pc len : Nat} {ini : Bool} {lv lv' : LV} {st st' : List Value} {h h2 : Hp} {pc' : Nat} (hs : zStep scr own nL pc ini (.new ix) len lv st h = some (pc', lv', st', h2)) : RK h h2 := by
  replace hs : ((match (generalizing := false) lkp (poolOf own) ix with
    | some (11, ci, _, _) => (match (generalizing := false) shp[h.1]? with
      | some (.inl c) => bif Nat.beq c ci then some (pc + 3, lv, .ref h.1 :: st, (h.1 + 1, (fun a => if a = h.1 then (fun _ => 0) else h.2.1 a), (fun a => if a = h.1 then (fun _ => none) else h.2.2 a))) else none
      | _ => none)
    | _ => none)) = some (pc', lv', st', h2) := hs
  simp only [Bool.cond_eq_ite] at hs
  repeat' split at hs
  all_goals first | (cases hs; done) | (cases hs; exact Or.inr (Or.inr rfl))
theorem zr_newarray (ty : ArrayType) {scr : Option (Nat × (Nat → Int32))} {own nL pc len : Nat} {ini : Bool} {lv lv' : LV} {st st' : List Value} {h h2 : Hp} {pc' : Nat} (hs : zStep scr own nL pc ini (.newarray ty) len lv st h = some (pc', lv', st', h2)) : RK h h2 := by
  replace hs : ((match (generalizing := false) st with
    | .int n :: r => (match (generalizing := false) shp[h.1]? with
      | some (.inr (t, N)) => bif ((Nat.beq t 0 && decide (ty = .int)) || (Nat.beq t 1 && decide (ty = .byte))) && decide (0 ≤ n.toInt) && Nat.beq n.toNatClampNeg N then some (pc + 2, lv, .ref h.1 :: r, (h.1 + 1, (fun a => if a = h.1 then (fun _ => 0) else h.2.1 a), (fun a => if a = h.1 then (fun _ => none) else h.2.2 a))) else none
      | _ => none)
    | _ => none)) = some (pc', lv', st', h2) := hs
  simp only [Bool.cond_eq_ite] at hs
  repeat' split at hs
  all_goals first | (cases hs; done) | (cases hs; exact Or.inr (Or.inr rfl))
theorem zr_anewarray (ix : Nat) {scr : Option (Nat × (Nat → Int32))} {own nL pc len : Nat} {ini : Bool} {lv lv' : LV} {st st' : List Value} {h h2 : Hp} {pc' : Nat} (hs : zStep scr own nL pc ini (.anewarray ix) len lv st h = some (pc', lv', st', h2)) : RK h h2 := by
  replace hs : ((match (generalizing := false) st with
    | .int n :: r => (match (generalizing := false) lkp (poolOf own) ix with
      | some (11, 5, _, _) => (match (generalizing := false) shp[h.1]? with
        | some (.inr (t, N)) => bif Nat.beq t 2 && decide (0 ≤ n.toInt) && Nat.beq n.toNatClampNeg N then some (pc + 3, lv, .ref h.1 :: r, (h.1 + 1, (fun a => if a = h.1 then (fun _ => 0) else h.2.1 a), (fun a => if a = h.1 then (fun _ => none) else h.2.2 a))) else none
        | _ => none)
      | _ => none)
    | _ => none)) = some (pc', lv', st', h2) := hs
  simp only [Bool.cond_eq_ite] at hs
  repeat' split at hs
  all_goals first | (cases hs; done) | (cases hs; exact Or.inr (Or.inr rfl))
theorem zr_invokespecial (ix : Nat) {scr : Option (Nat × (Nat → Int32))} {own nL pc len : Nat} {ini : Bool} {lv lv' : LV} {st st' : List Value} {h h2 : Hp} {pc' : Nat} (hs : zStep scr own nL pc ini (.invokespecial ix) len lv st h = some (pc', lv', st', h2)) : RK h h2 := by
  replace hs : ((match (generalizing := false) st with
    | .ref _ :: r => (match (generalizing := false) lkp (poolOf own) ix with
      | some (7, _, _, _) => bif Nat.ble (catS r) 8 then some (pc + 3, lv, r, h) else none
      | _ => none)
    | _ => none)) = some (pc', lv', st', h2) := hs
  simp only [Bool.cond_eq_ite] at hs
  repeat' split at hs
  all_goals first | (cases hs; done) | (cases hs; exact Or.inl rfl)
theorem zr_invokestatic (ix : Nat) {scr : Option (Nat × (Nat → Int32))} {own nL pc len : Nat} {ini : Bool} {lv lv' : LV} {st st' : List Value} {h h2 : Hp} {pc' : Nat} (hs : zStep scr own nL pc ini (.invokestatic ix) len lv st h = some (pc', lv', st', h2)) : RK h h2 := by
  replace hs : ((match (generalizing := false) lkp (poolOf own) ix with
    | some (8, _, _, _) => (match (generalizing := false) st with
      | .int n :: .int dp :: .ref d :: .int sp :: .ref a :: r => (match (generalizing := false) arrL h a 0 with
        | some n0 => (match (generalizing := false) arrL h d 0 with
          | some n1 => bif decide (0 ≤ n.toInt) && decide (0 ≤ dp.toInt) && decide (0 ≤ sp.toInt) && Nat.ble (sp.toNatClampNeg + n.toNatClampNeg) n0 && Nat.ble (dp.toNatClampNeg + n.toNatClampNeg) n1 && Nat.ble (catS r) 8 then
              some (pc + 3, lv, r, (h.1, (fun x => if x = d then va_cpy (h.2.1 a) (h.2.1 d) sp.toNatClampNeg dp.toNatClampNeg n.toNatClampNeg else h.2.1 x), h.2.2)) else none
          | none => none)
        | none => none)
      | _ => none)
    | some (13, _, _, _) => (match (generalizing := false) st with
      | .int y :: .int x :: r => bif Nat.ble (catS r) 8 then some (pc + 3, lv, .int (if x < y then y else x) :: r, h) else none
      | _ => none)
    | some (14, _, _, _) => (match (generalizing := false) st with
      | .int y :: .int x :: r => bif Nat.ble (catS r) 8 then some (pc + 3, lv, .int (if y < x then y else x) :: r, h) else none
      | _ => none)
    | _ => none)) = some (pc', lv', st', h2) := hs
  simp only [Bool.cond_eq_ite] at hs
  repeat' split at hs
  all_goals first | (cases hs; done) | (cases hs; exact Or.inl rfl)
theorem zStep_RK {ins : Instr} {scr : Option (Nat × (Nat → Int32))} {own nL pc len : Nat} {ini : Bool} {lv lv' : LV} {st st' : List Value} {h h2 : Hp} {pc' : Nat} (hs : zStep scr own nL pc ini ins len lv st h = some (pc', lv', st', h2)) : RK h h2 := by
  cases ins with
  | iconst i => exact zr_iconst i hs
  | bipush i => exact zr_bipush i hs
  | sipush i => exact zr_sipush i hs
  | lconst i => exact zr_lconst i hs
  | ldc ix => exact zr_ldc ix hs
  | ldc_w ix => exact zr_ldc_w ix hs
  | ldc2_w ix => exact zr_ldc2_w ix hs
  | iload_n i => exact zr_iload_n i hs
  | iload i => exact zr_iload i hs
  | lload_n i => exact zr_lload_n i hs
  | lload i => exact zr_lload i hs
  | aload_n i => exact zr_aload_n i hs
  | aload i => exact zr_aload i hs
  | istore_n i => exact zr_istore_n i hs
  | istore i => exact zr_istore i hs
  | lstore_n i => exact zr_lstore_n i hs
  | lstore i => exact zr_lstore i hs
  | astore_n i => exact zr_astore_n i hs
  | astore i => exact zr_astore i hs
  | iinc i n => exact zr_iinc i n hs
  | dup => exact zr_dup  hs
  | dup2 => exact zr_dup2  hs
  | pop => exact zr_pop  hs
  | iadd => exact zr_iadd  hs
  | isub => exact zr_isub  hs
  | imul => exact zr_imul  hs
  | idiv => exact zr_idiv  hs
  | irem => exact zr_irem  hs
  | ineg => exact zr_ineg  hs
  | ishl => exact zr_ishl  hs
  | ishr => exact zr_ishr  hs
  | iushr => exact zr_iushr  hs
  | iand => exact zr_iand  hs
  | ior => exact zr_ior  hs
  | ixor => exact zr_ixor  hs
  | i2l => exact zr_i2l  hs
  | i2b => exact zr_i2b  hs
  | l2i => exact zr_l2i  hs
  | ladd => exact zr_ladd  hs
  | lsub => exact zr_lsub  hs
  | lmul => exact zr_lmul  hs
  | ldiv => exact zr_ldiv  hs
  | lrem => exact zr_lrem  hs
  | land => exact zr_land  hs
  | lor => exact zr_lor  hs
  | lshl => exact zr_lshl  hs
  | lshr => exact zr_lshr  hs
  | lcmp => exact zr_lcmp  hs
  | goto off => exact zr_goto off hs
  | if_icmp c0 off => exact zr_if_icmp c0 off hs
  | ifCond c0 off => exact zr_ifCond c0 off hs
  | tableswitch d lo hi offs => exact zr_tableswitch d lo hi offs hs
  | lookupswitch d ps => exact zr_lookupswitch d ps hs
  | getfield ix => exact zr_getfield ix hs
  | putfield ix => exact zr_putfield ix hs
  | iaload => exact zr_iaload  hs
  | baload => exact zr_baload  hs
  | aaload => exact zr_aaload  hs
  | iastore => exact zr_iastore  hs
  | bastore => exact zr_bastore  hs
  | aastore => exact zr_aastore  hs
  | arraylength => exact zr_arraylength  hs
  | new ix => exact zr_new ix hs
  | newarray ty => exact zr_newarray ty hs
  | anewarray ix => exact zr_anewarray ix hs
  | invokespecial ix => exact zr_invokespecial ix hs
  | invokestatic ix => exact zr_invokestatic ix hs
  | _ => exact nomatch (show (none : Option Cfg) = some _ from hs)
theorem z_RB : ∀ (n : Nat) (scr : Option (Nat × (Nat → Int32))) (me : ME) (pc : Nat) (lv : LV) (st : List Value) (h : Hp) (r : Option Value) (h' : Hp), zRun scr n me pc lv st h = some (r, h') → RB h → RB h' := by
  intro n
  induction n with
  | zero => intro scr me pc lv st h r h' hrun; cases hrun
  | succ n ih =>
    intro scr me pc lv st h r h' hrun hb
    unfold zRun at hrun
    split at hrun
    · cases hrun
    · split at hrun
      · cases hrun; exact hb
      · split at hrun
        · split at hrun
          next r1 h1 h1run => exact ih _ _ _ _ _ _ _ _ hrun (ih _ _ _ _ _ _ _ _ h1run hb)
          next => cases hrun
        · split at hrun
          next pc' lv' st' h2 hst => exact ih _ _ _ _ _ _ _ _ hrun ((zStep_RK hst).use hb)
          next => cases hrun
def H1 : Hp := h0new (0, (fun _ _ => 0), fun _ _ => none)
def C8 : Option (Option Value × Hp) := zRun none 3000 mt_X8_init 0 [(0, .ref 0)] [] H1
def H2 : Hp := match C8 with
  | some (_, h) => h
  | none => H1
theorem C8_none : (C8.map (fun x => x.1.isNone)) = some true := by decide +kernel
theorem C8_eq' : C8 = some (none, H2) := by
  have h := C8_none
  unfold H2
  generalize C8 = c at h ⊢
  cases c with
  | none => cases h
  | some x =>
    obtain ⟨r, h'⟩ := x
    cases r with
    | none => rfl
    | some v => cases h
theorem C8_eq : zRun none 3000 mt_X8_init 0 [(0, .ref 0)] [] H1 = some (none, H2) := by
  have h := C8_eq'
  unfold C8 at h
  exact h
theorem H2_n : H2.1 = 55 := by decide +kernel
def H3 : Hp := h0new H2
def C9 : Option (Option Value × Hp) := zRun none 5000 mt_X9_init 0 [(0, .ref 55)] [] H3
def H4 : Hp := match C9 with
  | some (_, h) => h
  | none => H3
theorem C9_none : (C9.map (fun x => x.1.isNone)) = some true := by decide +kernel
theorem C9_eq' : C9 = some (none, H4) := by
  have h := C9_none
  unfold H4
  generalize C9 = c at h ⊢
  cases c with
  | none => cases h
  | some x =>
    obtain ⟨r, h'⟩ := x
    cases r with
    | none => rfl
    | some v => cases h
theorem C9_eq : zRun none 5000 mt_X9_init 0 [(0, .ref 55)] [] H3 = some (none, H4) := by
  have h := C9_eq'
  unfold C9 at h
  exact h
theorem H4_n : H4.1 = 83 := by decide +kernel
theorem H4_RB : RB H4 := by
  have h1 : RB H1 := fun i k _ => by
    show (if i = 0 then (fun _ => none) else fun _ => none) k = none
    by_cases hi : i = 0
    · rw [if_pos hi]
    · rw [if_neg hi]
  have h2 : RB H2 := z_RB _ _ _ _ _ _ _ _ _ C8_eq h1
  have h3 : RB H3 := RK.use (Or.inr (Or.inr rfl)) h2
  exact z_RB _ _ _ _ _ _ _ _ _ C9_eq h3
theorem R0_RB (i k : Nat) (h : 83 ≤ i ∨ 40 ≤ k) : R0 5 i k = none := by
  have key : (rTab 5).all (fun e => Nat.blt e.1 83 && e.2.all (fun q => Nat.blt q.1 40)) = true := by decide +kernel
  unfold R0
  split
  next l hl =>
    have h1 := List.all_eq_true.mp key _ (lkp_mem hl)
    rw [Bool.and_eq_true] at h1
    cases hk : lkp l k with
    | none => rfl
    | some v =>
      have h2 := List.all_eq_true.mp h1.2 _ (lkp_mem hk)
      have h3 : i < 83 := by simpa using h1.1
      have h4 : k < 40 := by simpa using h2
      omega
  next => rfl
theorem H4_Rb : (List.range 83).all (fun i => (List.range 40).all (fun k => decide (H4.2.2 i k = R0 5 i k))) = true := by decide +kernel
theorem H4_R : H4.2.2 = R0 5 := by
  funext i k
  by_cases h : 83 ≤ i ∨ 40 ≤ k
  · rw [H4_RB i k h, R0_RB i k h]
  · have h1 := List.all_eq_true.mp H4_Rb i (List.mem_range.mpr (by omega))
    have h2 := List.all_eq_true.mp h1 k (List.mem_range.mpr (by omega))
    simpa using h2
def I0 : IH := H4.2.1
theorem trip {h : Hp} {n : Nat} {R : Nat → Nat → Option Nat} (h1 : h.1 = n) (h2 : h.2.2 = R) : h = (n, h.2.1, R) := by
  subst h1
  subst h2
  rfl
theorem H4_eq : H4 = (83, I0, R0 5) := trip H4_n H4_R
set_option maxRecDepth 20000 in
/-- what is left, out of the calls and the start -/
theorem law_goal {Inv : Nat → IH → Prop} (hops : opsOK Inv) (h0 : Inv 5 I0) : lawGoal := by
  intro L xs hL
  obtain ⟨h', hz, k⟩ := law_loop hops hL (xs := xs) (L + 7) 0 5 I0 (by omega) (by omega) h0
  have e : TT (some (L, xs)) mt_L 0 [(0, .ref sId)] [] (0, (fun _ _ => 0), fun _ _ => none) (some (.int 1)) h' := by
    refine TT_go 2 (pc' := 4) (lv' := [(0, .ref 4096)]) (st' := [.ref 0, .ref 0]) (h2 := H1) rfl ?_
    refine TT_call (me' := mt_X8_init) (as := [.ref 0]) (rest := [.ref 0]) (r1 := none) (h1 := H2) rfl rfl rfl ⟨_, C8_eq⟩ ?_
    have hn : H2 = (55, H2.2.1, H2.2.2) := trip H2_n rfl
    have h3 : H3 = h0new (55, H2.2.1, H2.2.2) := by unfold H3; rw [← hn]
    rw [hn]
    refine TT_go 3 (pc' := 12) (lv' := [(1, .ref 0), (0, .ref 4096)]) (st' := [.ref 55, .ref 55]) (h2 := h0new (55, H2.2.1, H2.2.2)) rfl ?_
    rw [← h3]
    have hc : TT none mt_X9_init 0 (lv_args 0 [.ref 55]) [] H3 none (83, I0, R0 5) := ⟨_, by rw [← H4_eq]; exact C9_eq⟩
    rw [h3] at hc ⊢
    refine TT_call (me' := mt_X9_init) (as := [.ref 55]) (rest := [.ref 55]) (r1 := none) (h1 := (83, I0, R0 5)) rfl rfl rfl hc ?_
    refine TT_go 3 (pc' := 18) (lv' := [(3, .int (nI 0)), (2, .ref 55), (1, .ref 0), (0, .ref 4096)]) (st' := []) (h2 := (83, I0, R0 5)) rfl ?_
    exact k
  obtain ⟨n, hn⟩ := e
  exact ⟨n, h', hn, hz⟩

