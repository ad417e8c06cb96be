/-! Cells are only made, never lost; a call; the induction. -/
theorem zn_iconst (i : Int) {scr : Option (Nat × (Nat → Int32))} {own nL pc len : Nat} {ini : Bool} {lv lv' : LV} {st st' : List Value} {h h2 : Hp} {pc' : Nat} (hs : zStep scr own nL pc ini (.iconst i) len lv st h = some (pc', lv', st', h2)) : h2.1 = h.1 ∨ (h2.1 = h.1 + 1 ∧ h.1 < 83) := by
  replace hs : (some (pc + 1, lv, .int (Int32.ofInt i) :: st, h)) = some (pc', lv', st', h2) := hs
  cases hs; exact Or.inl rfl
theorem zn_bipush (i : Int) {scr : Option (Nat × (Nat → Int32))} {own nL pc len : Nat} {ini : Bool} {lv lv' : LV} {st st' : List Value} {h h2 : Hp} {pc' : Nat} (hs : zStep scr own nL pc ini (.bipush i) len lv st h = some (pc', lv', st', h2)) : h2.1 = h.1 ∨ (h2.1 = h.1 + 1 ∧ h.1 < 83) := by
  replace hs : (some (pc + 2, lv, .int (Int8.ofInt i).toInt32 :: st, h)) = some (pc', lv', st', h2) := hs
  cases hs; exact Or.inl rfl
theorem zn_sipush (i : Int) {scr : Option (Nat × (Nat → Int32))} {own nL pc len : Nat} {ini : Bool} {lv lv' : LV} {st st' : List Value} {h h2 : Hp} {pc' : Nat} (hs : zStep scr own nL pc ini (.sipush i) len lv st h = some (pc', lv', st', h2)) : h2.1 = h.1 ∨ (h2.1 = h.1 + 1 ∧ h.1 < 83) := by
  replace hs : (some (pc + 3, lv, .int (Int16.ofInt i).toInt32 :: st, h)) = some (pc', lv', st', h2) := hs
  cases hs; exact Or.inl rfl
theorem zn_lconst (i : Fin 2) {scr : Option (Nat × (Nat → Int32))} {own nL pc len : Nat} {ini : Bool} {lv lv' : LV} {st st' : List Value} {h h2 : Hp} {pc' : Nat} (hs : zStep scr own nL pc ini (.lconst i) len lv st h = some (pc', lv', st', h2)) : h2.1 = h.1 ∨ (h2.1 = h.1 + 1 ∧ h.1 < 83) := by
  replace hs : (some (pc + 1, lv, .long (Int64.ofNat (i : Nat)) :: st, h)) = some (pc', lv', st', h2) := hs
  cases hs; exact Or.inl rfl
theorem zn_ldc (ix : Nat) {scr : Option (Nat × (Nat → Int32))} {own nL pc len : Nat} {ini : Bool} {lv lv' : LV} {st st' : List Value} {h h2 : Hp} {pc' : Nat} (hs : zStep scr own nL pc ini (.ldc ix) len lv st h = some (pc', lv', st', h2)) : h2.1 = h.1 ∨ (h2.1 = h.1 + 1 ∧ h.1 < 83) := by
  replace hs : ((match (generalizing := false) lkp (poolOf own) ix with
    | some (9, _, _, v) => some (pc + 2, lv, .int (Int32.ofInt v) :: st, h)
    | _ => none)) = some (pc', lv', st', h2) := hs
  repeat' split at hs
  all_goals first | (cases hs; done) | (cases hs; exact Or.inl rfl) | (cases hs; exact Or.inr ⟨rfl, shp_lt (by assumption)⟩)
theorem zn_ldc_w (ix : Nat) {scr : Option (Nat × (Nat → Int32))} {own nL pc len : Nat} {ini : Bool} {lv lv' : LV} {st st' : List Value} {h h2 : Hp} {pc' : Nat} (hs : zStep scr own nL pc ini (.ldc_w ix) len lv st h = some (pc', lv', st', h2)) : h2.1 = h.1 ∨ (h2.1 = h.1 + 1 ∧ h.1 < 83) := by
  replace hs : ((match (generalizing := false) lkp (poolOf own) ix with
    | some (9, _, _, v) => some (pc + 3, lv, .int (Int32.ofInt v) :: st, h)
    | _ => none)) = some (pc', lv', st', h2) := hs
  repeat' split at hs
  all_goals first | (cases hs; done) | (cases hs; exact Or.inl rfl) | (cases hs; exact Or.inr ⟨rfl, shp_lt (by assumption)⟩)
theorem zn_ldc2_w (ix : Nat) {scr : Option (Nat × (Nat → Int32))} {own nL pc len : Nat} {ini : Bool} {lv lv' : LV} {st st' : List Value} {h h2 : Hp} {pc' : Nat} (hs : zStep scr own nL pc ini (.ldc2_w ix) len lv st h = some (pc', lv', st', h2)) : h2.1 = h.1 ∨ (h2.1 = h.1 + 1 ∧ h.1 < 83) := by
  replace hs : ((match (generalizing := false) lkp (poolOf own) ix with
    | some (10, _, _, v) => some (pc + 3, lv, .long (Int64.ofInt v) :: st, h)
    | _ => none)) = some (pc', lv', st', h2) := hs
  repeat' split at hs
  all_goals first | (cases hs; done) | (cases hs; exact Or.inl rfl) | (cases hs; exact Or.inr ⟨rfl, shp_lt (by assumption)⟩)
theorem zn_iload_n (i : Fin 4) {scr : Option (Nat × (Nat → Int32))} {own nL pc len : Nat} {ini : Bool} {lv lv' : LV} {st st' : List Value} {h h2 : Hp} {pc' : Nat} (hs : zStep scr own nL pc ini (.iload_n i) len lv st h = some (pc', lv', st', h2)) : h2.1 = h.1 ∨ (h2.1 = h.1 + 1 ∧ h.1 < 83) := by
  replace hs : ((match (generalizing := false) ldI lv i with
    | some x => some (pc + 1, lv, .int x :: st, h)
    | none => none)) = some (pc', lv', st', h2) := hs
  repeat' split at hs
  all_goals first | (cases hs; done) | (cases hs; exact Or.inl rfl) | (cases hs; exact Or.inr ⟨rfl, shp_lt (by assumption)⟩)
theorem zn_iload (i : Nat) {scr : Option (Nat × (Nat → Int32))} {own nL pc len : Nat} {ini : Bool} {lv lv' : LV} {st st' : List Value} {h h2 : Hp} {pc' : Nat} (hs : zStep scr own nL pc ini (.iload i) len lv st h = some (pc', lv', st', h2)) : h2.1 = h.1 ∨ (h2.1 = h.1 + 1 ∧ h.1 < 83) := by
  replace hs : ((match (generalizing := false) ldI lv i with
    | some x => some (pc + 2, lv, .int x :: st, h)
    | none => none)) = some (pc', lv', st', h2) := hs
  repeat' split at hs
  all_goals first | (cases hs; done) | (cases hs; exact Or.inl rfl) | (cases hs; exact Or.inr ⟨rfl, shp_lt (by assumption)⟩)
theorem zn_lload_n (i : Fin 4) {scr : Option (Nat × (Nat → Int32))} {own nL pc len : Nat} {ini : Bool} {lv lv' : LV} {st st' : List Value} {h h2 : Hp} {pc' : Nat} (hs : zStep scr own nL pc ini (.lload_n i) len lv st h = some (pc', lv', st', h2)) : h2.1 = h.1 ∨ (h2.1 = h.1 + 1 ∧ h.1 < 83) := by
  replace hs : ((match (generalizing := false) ldL lv i with
    | some x => some (pc + 1, lv, .long x :: st, h)
    | none => none)) = some (pc', lv', st', h2) := hs
  repeat' split at hs
  all_goals first | (cases hs; done) | (cases hs; exact Or.inl rfl) | (cases hs; exact Or.inr ⟨rfl, shp_lt (by assumption)⟩)
theorem zn_lload (i : Nat) {scr : Option (Nat × (Nat → Int32))} {own nL pc len : Nat} {ini : Bool} {lv lv' : LV} {st st' : List Value} {h h2 : Hp} {pc' : Nat} (hs : zStep scr own nL pc ini (.lload i) len lv st h = some (pc', lv', st', h2)) : h2.1 = h.1 ∨ (h2.1 = h.1 + 1 ∧ h.1 < 83) := by
  replace hs : ((match (generalizing := false) ldL lv i with
    | some x => some (pc + 2, lv, .long x :: st, h)
    | none => none)) = some (pc', lv', st', h2) := hs
  repeat' split at hs
  all_goals first | (cases hs; done) | (cases hs; exact Or.inl rfl) | (cases hs; exact Or.inr ⟨rfl, shp_lt (by assumption)⟩)
theorem zn_aload_n (i : Fin 4) {scr : Option (Nat × (Nat → Int32))} {own nL pc len : Nat} {ini : Bool} {lv lv' : LV} {st st' : List Value} {h h2 : Hp} {pc' : Nat} (hs : zStep scr own nL pc ini (.aload_n i) len lv st h = some (pc', lv', st', h2)) : h2.1 = h.1 ∨ (h2.1 = h.1 + 1 ∧ h.1 < 83) := by
  replace hs : ((match (generalizing := false) ldA lv i with
    | some x => some (pc + 1, lv, .ref x :: st, h)
    | none => none)) = some (pc', lv', st', h2) := hs
  repeat' split at hs
  all_goals first | (cases hs; done) | (cases hs; exact Or.inl rfl) | (cases hs; exact Or.inr ⟨rfl, shp_lt (by assumption)⟩)
theorem zn_aload (i : Nat) {scr : Option (Nat × (Nat → Int32))} {own nL pc len : Nat} {ini : Bool} {lv lv' : LV} {st st' : List Value} {h h2 : Hp} {pc' : Nat} (hs : zStep scr own nL pc ini (.aload i) len lv st h = some (pc', lv', st', h2)) : h2.1 = h.1 ∨ (h2.1 = h.1 + 1 ∧ h.1 < 83) := by
  replace hs : ((match (generalizing := false) ldA lv i with
    | some x => some (pc + 2, lv, .ref x :: st, h)
    | none => none)) = some (pc', lv', st', h2) := hs
  repeat' split at hs
  all_goals first | (cases hs; done) | (cases hs; exact Or.inl rfl) | (cases hs; exact Or.inr ⟨rfl, shp_lt (by assumption)⟩)
theorem zn_istore_n (i : Fin 4) {scr : Option (Nat × (Nat → Int32))} {own nL pc len : Nat} {ini : Bool} {lv lv' : LV} {st st' : List Value} {h h2 : Hp} {pc' : Nat} (hs : zStep scr own nL pc ini (.istore_n i) len lv st h = some (pc', lv', st', h2)) : h2.1 = h.1 ∨ (h2.1 = h.1 + 1 ∧ h.1 < 83) := by
  replace hs : ((match (generalizing := false) st with
    | .int x :: r => bif Nat.blt i nL then some (pc + 1, lvPut lv i (.int x), r, h) else none
    | _ => none)) = some (pc', lv', st', h2) := hs
  simp only [Bool.cond_eq_ite] at hs
  repeat' split at hs
  all_goals first | (cases hs; done) | (cases hs; exact Or.inl rfl) | (cases hs; exact Or.inr ⟨rfl, shp_lt (by assumption)⟩)
theorem zn_istore (i : Nat) {scr : Option (Nat × (Nat → Int32))} {own nL pc len : Nat} {ini : Bool} {lv lv' : LV} {st st' : List Value} {h h2 : Hp} {pc' : Nat} (hs : zStep scr own nL pc ini (.istore i) len lv st h = some (pc', lv', st', h2)) : h2.1 = h.1 ∨ (h2.1 = h.1 + 1 ∧ h.1 < 83) := by
  replace hs : ((match (generalizing := false) st with
    | .int x :: r => bif Nat.blt i nL then some (pc + 2, lvPut lv i (.int x), r, h) else none
    | _ => none)) = some (pc', lv', st', h2) := hs
  simp only [Bool.cond_eq_ite] at hs
  repeat' split at hs
  all_goals first | (cases hs; done) | (cases hs; exact Or.inl rfl) | (cases hs; exact Or.inr ⟨rfl, shp_lt (by assumption)⟩)
theorem zn_lstore_n (i : Fin 4) {scr : Option (Nat × (Nat → Int32))} {own nL pc len : Nat} {ini : Bool} {lv lv' : LV} {st st' : List Value} {h h2 : Hp} {pc' : Nat} (hs : zStep scr own nL pc ini (.lstore_n i) len lv st h = some (pc', lv', st', h2)) : h2.1 = h.1 ∨ (h2.1 = h.1 + 1 ∧ h.1 < 83) := by
  replace hs : ((match (generalizing := false) st with
    | .long x :: r => bif Nat.blt (i + 1) nL then some (pc + 1, lvPut2 lv i (.long x), r, h) else none
    | _ => none)) = some (pc', lv', st', h2) := hs
  simp only [Bool.cond_eq_ite] at hs
  repeat' split at hs
  all_goals first | (cases hs; done) | (cases hs; exact Or.inl rfl) | (cases hs; exact Or.inr ⟨rfl, shp_lt (by assumption)⟩)
theorem zn_lstore (i : Nat) {scr : Option (Nat × (Nat → Int32))} {own nL pc len : Nat} {ini : Bool} {lv lv' : LV} {st st' : List Value} {h h2 : Hp} {pc' : Nat} (hs : zStep scr own nL pc ini (.lstore i) len lv st h = some (pc', lv', st', h2)) : h2.1 = h.1 ∨ (h2.1 = h.1 + 1 ∧ h.1 < 83) := by
  replace hs : ((match (generalizing := false) st with
    | .long x :: r => bif Nat.blt (i + 1) nL then some (pc + 2, lvPut2 lv i (.long x), r, h) else none
    | _ => none)) = some (pc', lv', st', h2) := hs
  simp only [Bool.cond_eq_ite] at hs
  repeat' split at hs
  all_goals first | (cases hs; done) | (cases hs; exact Or.inl rfl) | (cases hs; exact Or.inr ⟨rfl, shp_lt (by assumption)⟩)
theorem zn_astore_n (i : Fin 4) {scr : Option (Nat × (Nat → Int32))} {own nL pc len : Nat} {ini : Bool} {lv lv' : LV} {st st' : List Value} {h h2 : Hp} {pc' : Nat} (hs : zStep scr own nL pc ini (.astore_n i) len lv st h = some (pc', lv', st', h2)) : h2.1 = h.1 ∨ (h2.1 = h.1 + 1 ∧ h.1 < 83) := by
  replace hs : ((match (generalizing := false) st with
    | .ref x :: r => bif Nat.blt i nL then some (pc + 1, lvPut lv i (.ref x), r, h) else none
    | _ => none)) = some (pc', lv', st', h2) := hs
  simp only [Bool.cond_eq_ite] at hs
  repeat' split at hs
  all_goals first | (cases hs; done) | (cases hs; exact Or.inl rfl) | (cases hs; exact Or.inr ⟨rfl, shp_lt (by assumption)⟩)
theorem zn_astore (i : Nat) {scr : Option (Nat × (Nat → Int32))} {own nL pc len : Nat} {ini : Bool} {lv lv' : LV} {st st' : List Value} {h h2 : Hp} {pc' : Nat} (hs : zStep scr own nL pc ini (.astore i) len lv st h = some (pc', lv', st', h2)) : h2.1 = h.1 ∨ (h2.1 = h.1 + 1 ∧ h.1 < 83) := by
  replace hs : ((match (generalizing := false) st with
    | .ref x :: r => bif Nat.blt i nL then some (pc + 2, lvPut lv i (.ref x), r, h) else none
    | _ => none)) = some (pc', lv', st', h2) := hs
  simp only [Bool.cond_eq_ite] at hs
  repeat' split at hs
  all_goals first | (cases hs; done) | (cases hs; exact Or.inl rfl) | (cases hs; exact Or.inr ⟨rfl, shp_lt (by assumption)⟩)
theorem zn_iinc (i : Nat) (n : Int) {scr : Option (Nat × (Nat → Int32))} {own nL pc len : Nat} {ini : Bool} {lv lv' : LV} {st st' : List Value} {h h2 : Hp} {pc' : Nat} (hs : zStep scr own nL pc ini (.iinc i n) len lv st h = some (pc', lv', st', h2)) : h2.1 = h.1 ∨ (h2.1 = h.1 + 1 ∧ h.1 < 83) := by
  replace hs : ((match (generalizing := false) ldI lv i with
    | some x => bif Nat.blt i nL then some (pc + 3, lvPut lv i (.int (x + Int32.ofInt n)), st, h) else none
    | none => none)) = some (pc', lv', st', h2) := hs
  simp only [Bool.cond_eq_ite] at hs
  repeat' split at hs
  all_goals first | (cases hs; done) | (cases hs; exact Or.inl rfl) | (cases hs; exact Or.inr ⟨rfl, shp_lt (by assumption)⟩)
theorem zn_dup  {scr : Option (Nat × (Nat → Int32))} {own nL pc len : Nat} {ini : Bool} {lv lv' : LV} {st st' : List Value} {h h2 : Hp} {pc' : Nat} (hs : zStep scr own nL pc ini (.dup) len lv st h = some (pc', lv', st', h2)) : h2.1 = h.1 ∨ (h2.1 = h.1 + 1 ∧ h.1 < 83) := by
  replace hs : ((match (generalizing := false) st with
    | v :: r => bif Nat.beq v.category 1 then some (pc + 1, lv, v :: v :: r, h) else none
    | _ => none)) = some (pc', lv', st', h2) := hs
  simp only [Bool.cond_eq_ite] at hs
  repeat' split at hs
  all_goals first | (cases hs; done) | (cases hs; exact Or.inl rfl) | (cases hs; exact Or.inr ⟨rfl, shp_lt (by assumption)⟩)
theorem zn_dup2  {scr : Option (Nat × (Nat → Int32))} {own nL pc len : Nat} {ini : Bool} {lv lv' : LV} {st st' : List Value} {h h2 : Hp} {pc' : Nat} (hs : zStep scr own nL pc ini (.dup2) len lv st h = some (pc', lv', st', h2)) : h2.1 = h.1 ∨ (h2.1 = h.1 + 1 ∧ h.1 < 83) := by
  replace hs : ((match (generalizing := false) st with
    | v :: w :: r => bif Nat.beq v.category 1 && Nat.beq w.category 1 then some (pc + 1, lv, v :: w :: v :: w :: r, h) else none
    | _ => none)) = some (pc', lv', st', h2) := hs
  simp only [Bool.cond_eq_ite] at hs
  repeat' split at hs
  all_goals first | (cases hs; done) | (cases hs; exact Or.inl rfl) | (cases hs; exact Or.inr ⟨rfl, shp_lt (by assumption)⟩)
theorem zn_pop  {scr : Option (Nat × (Nat → Int32))} {own nL pc len : Nat} {ini : Bool} {lv lv' : LV} {st st' : List Value} {h h2 : Hp} {pc' : Nat} (hs : zStep scr own nL pc ini (.pop) len lv st h = some (pc', lv', st', h2)) : h2.1 = h.1 ∨ (h2.1 = h.1 + 1 ∧ h.1 < 83) := by
  replace hs : ((match (generalizing := false) st with
    | v :: r => bif Nat.beq v.category 1 then some (pc + 1, lv, r, h) else none
    | _ => none)) = some (pc', lv', st', h2) := hs
  simp only [Bool.cond_eq_ite] at hs
  repeat' split at hs
  all_goals first | (cases hs; done) | (cases hs; exact Or.inl rfl) | (cases hs; exact Or.inr ⟨rfl, shp_lt (by assumption)⟩)
theorem zn_iadd  {scr : Option (Nat × (Nat → Int32))} {own nL pc len : Nat} {ini : Bool} {lv lv' : LV} {st st' : List Value} {h h2 : Hp} {pc' : Nat} (hs : zStep scr own nL pc ini (.iadd) len lv st h = some (pc', lv', st', h2)) : h2.1 = h.1 ∨ (h2.1 = h.1 + 1 ∧ h.1 < 83) := by
  replace hs : ((match (generalizing := false) st with
    | .int y :: .int x :: r => some (pc + 1, lv, .int (x + y) :: r, h)
    | _ => none)) = some (pc', lv', st', h2) := hs
  repeat' split at hs
  all_goals first | (cases hs; done) | (cases hs; exact Or.inl rfl) | (cases hs; exact Or.inr ⟨rfl, shp_lt (by assumption)⟩)
theorem zn_isub  {scr : Option (Nat × (Nat → Int32))} {own nL pc len : Nat} {ini : Bool} {lv lv' : LV} {st st' : List Value} {h h2 : Hp} {pc' : Nat} (hs : zStep scr own nL pc ini (.isub) len lv st h = some (pc', lv', st', h2)) : h2.1 = h.1 ∨ (h2.1 = h.1 + 1 ∧ h.1 < 83) := by
  replace hs : ((match (generalizing := false) st with
    | .int y :: .int x :: r => some (pc + 1, lv, .int (x - y) :: r, h)
    | _ => none)) = some (pc', lv', st', h2) := hs
  repeat' split at hs
  all_goals first | (cases hs; done) | (cases hs; exact Or.inl rfl) | (cases hs; exact Or.inr ⟨rfl, shp_lt (by assumption)⟩)
theorem zn_imul  {scr : Option (Nat × (Nat → Int32))} {own nL pc len : Nat} {ini : Bool} {lv lv' : LV} {st st' : List Value} {h h2 : Hp} {pc' : Nat} (hs : zStep scr own nL pc ini (.imul) len lv st h = some (pc', lv', st', h2)) : h2.1 = h.1 ∨ (h2.1 = h.1 + 1 ∧ h.1 < 83) := by
  replace hs : ((match (generalizing := false) st with
    | .int y :: .int x :: r => some (pc + 1, lv, .int (x * y) :: r, h)
    | _ => none)) = some (pc', lv', st', h2) := hs
  repeat' split at hs
  all_goals first | (cases hs; done) | (cases hs; exact Or.inl rfl) | (cases hs; exact Or.inr ⟨rfl, shp_lt (by assumption)⟩)
theorem zn_idiv  {scr : Option (Nat × (Nat → Int32))} {own nL pc len : Nat} {ini : Bool} {lv lv' : LV} {st st' : List Value} {h h2 : Hp} {pc' : Nat} (hs : zStep scr own nL pc ini (.idiv) len lv st h = some (pc', lv', st', h2)) : h2.1 = h.1 ∨ (h2.1 = h.1 + 1 ∧ h.1 < 83) := by
  replace hs : ((match (generalizing := false) st with
    | .int y :: .int x :: r => if y = 0 then none else some (pc + 1, lv, .int (x / y) :: r, h)
    | _ => none)) = some (pc', lv', st', h2) := hs
  repeat' split at hs
  all_goals first | (cases hs; done) | (cases hs; exact Or.inl rfl) | (cases hs; exact Or.inr ⟨rfl, shp_lt (by assumption)⟩)
theorem zn_irem  {scr : Option (Nat × (Nat → Int32))} {own nL pc len : Nat} {ini : Bool} {lv lv' : LV} {st st' : List Value} {h h2 : Hp} {pc' : Nat} (hs : zStep scr own nL pc ini (.irem) len lv st h = some (pc', lv', st', h2)) : h2.1 = h.1 ∨ (h2.1 = h.1 + 1 ∧ h.1 < 83) := by
  replace hs : ((match (generalizing := false) st with
    | .int y :: .int x :: r => if y = 0 then none else some (pc + 1, lv, .int (x - x / y * y) :: r, h)
    | _ => none)) = some (pc', lv', st', h2) := hs
  repeat' split at hs
  all_goals first | (cases hs; done) | (cases hs; exact Or.inl rfl) | (cases hs; exact Or.inr ⟨rfl, shp_lt (by assumption)⟩)
theorem zn_ineg  {scr : Option (Nat × (Nat → Int32))} {own nL pc len : Nat} {ini : Bool} {lv lv' : LV} {st st' : List Value} {h h2 : Hp} {pc' : Nat} (hs : zStep scr own nL pc ini (.ineg) len lv st h = some (pc', lv', st', h2)) : h2.1 = h.1 ∨ (h2.1 = h.1 + 1 ∧ h.1 < 83) := by
  replace hs : ((match (generalizing := false) st with
    | .int x :: r => some (pc + 1, lv, .int (-x) :: r, h)
    | _ => none)) = some (pc', lv', st', h2) := hs
  repeat' split at hs
  all_goals first | (cases hs; done) | (cases hs; exact Or.inl rfl) | (cases hs; exact Or.inr ⟨rfl, shp_lt (by assumption)⟩)
theorem zn_ishl  {scr : Option (Nat × (Nat → Int32))} {own nL pc len : Nat} {ini : Bool} {lv lv' : LV} {st st' : List Value} {h h2 : Hp} {pc' : Nat} (hs : zStep scr own nL pc ini (.ishl) len lv st h = some (pc', lv', st', h2)) : h2.1 = h.1 ∨ (h2.1 = h.1 + 1 ∧ h.1 < 83) := by
  replace hs : ((match (generalizing := false) st with
    | .int y :: .int x :: r => some (pc + 1, lv, .int (x <<< (y &&& 31)) :: r, h)
    | _ => none)) = some (pc', lv', st', h2) := hs
  repeat' split at hs
  all_goals first | (cases hs; done) | (cases hs; exact Or.inl rfl) | (cases hs; exact Or.inr ⟨rfl, shp_lt (by assumption)⟩)
theorem zn_ishr  {scr : Option (Nat × (Nat → Int32))} {own nL pc len : Nat} {ini : Bool} {lv lv' : LV} {st st' : List Value} {h h2 : Hp} {pc' : Nat} (hs : zStep scr own nL pc ini (.ishr) len lv st h = some (pc', lv', st', h2)) : h2.1 = h.1 ∨ (h2.1 = h.1 + 1 ∧ h.1 < 83) := by
  replace hs : ((match (generalizing := false) st with
    | .int y :: .int x :: r => some (pc + 1, lv, .int (x >>> (y &&& 31)) :: r, h)
    | _ => none)) = some (pc', lv', st', h2) := hs
  repeat' split at hs
  all_goals first | (cases hs; done) | (cases hs; exact Or.inl rfl) | (cases hs; exact Or.inr ⟨rfl, shp_lt (by assumption)⟩)
theorem zn_iushr  {scr : Option (Nat × (Nat → Int32))} {own nL pc len : Nat} {ini : Bool} {lv lv' : LV} {st st' : List Value} {h h2 : Hp} {pc' : Nat} (hs : zStep scr own nL pc ini (.iushr) len lv st h = some (pc', lv', st', h2)) : h2.1 = h.1 ∨ (h2.1 = h.1 + 1 ∧ h.1 < 83) := by
  replace hs : ((match (generalizing := false) st with
    | .int y :: .int x :: r => some (pc + 1, lv, .int (x.toUInt32 >>> (y.toUInt32 &&& Int32.toUInt32 31)).toInt32 :: r, h)
    | _ => none)) = some (pc', lv', st', h2) := hs
  repeat' split at hs
  all_goals first | (cases hs; done) | (cases hs; exact Or.inl rfl) | (cases hs; exact Or.inr ⟨rfl, shp_lt (by assumption)⟩)
theorem zn_iand  {scr : Option (Nat × (Nat → Int32))} {own nL pc len : Nat} {ini : Bool} {lv lv' : LV} {st st' : List Value} {h h2 : Hp} {pc' : Nat} (hs : zStep scr own nL pc ini (.iand) len lv st h = some (pc', lv', st', h2)) : h2.1 = h.1 ∨ (h2.1 = h.1 + 1 ∧ h.1 < 83) := by
  replace hs : ((match (generalizing := false) st with
    | .int y :: .int x :: r => some (pc + 1, lv, .int (x &&& y) :: r, h)
    | _ => none)) = some (pc', lv', st', h2) := hs
  repeat' split at hs
  all_goals first | (cases hs; done) | (cases hs; exact Or.inl rfl) | (cases hs; exact Or.inr ⟨rfl, shp_lt (by assumption)⟩)
theorem zn_ior  {scr : Option (Nat × (Nat → Int32))} {own nL pc len : Nat} {ini : Bool} {lv lv' : LV} {st st' : List Value} {h h2 : Hp} {pc' : Nat} (hs : zStep scr own nL pc ini (.ior) len lv st h = some (pc', lv', st', h2)) : h2.1 = h.1 ∨ (h2.1 = h.1 + 1 ∧ h.1 < 83) := by
  replace hs : ((match (generalizing := false) st with
    | .int y :: .int x :: r => some (pc + 1, lv, .int (x ||| y) :: r, h)
    | _ => none)) = some (pc', lv', st', h2) := hs
  repeat' split at hs
  all_goals first | (cases hs; done) | (cases hs; exact Or.inl rfl) | (cases hs; exact Or.inr ⟨rfl, shp_lt (by assumption)⟩)
theorem zn_ixor  {scr : Option (Nat × (Nat → Int32))} {own nL pc len : Nat} {ini : Bool} {lv lv' : LV} {st st' : List Value} {h h2 : Hp} {pc' : Nat} (hs : zStep scr own nL pc ini (.ixor) len lv st h = some (pc', lv', st', h2)) : h2.1 = h.1 ∨ (h2.1 = h.1 + 1 ∧ h.1 < 83) := by
  replace hs : ((match (generalizing := false) st with
    | .int y :: .int x :: r => some (pc + 1, lv, .int (x ^^^ y) :: r, h)
    | _ => none)) = some (pc', lv', st', h2) := hs
  repeat' split at hs
  all_goals first | (cases hs; done) | (cases hs; exact Or.inl rfl) | (cases hs; exact Or.inr ⟨rfl, shp_lt (by assumption)⟩)
theorem zn_i2l  {scr : Option (Nat × (Nat → Int32))} {own nL pc len : Nat} {ini : Bool} {lv lv' : LV} {st st' : List Value} {h h2 : Hp} {pc' : Nat} (hs : zStep scr own nL pc ini (.i2l) len lv st h = some (pc', lv', st', h2)) : h2.1 = h.1 ∨ (h2.1 = h.1 + 1 ∧ h.1 < 83) := by
  replace hs : ((match (generalizing := false) st with
    | .int x :: r => some (pc + 1, lv, .long x.toInt64 :: r, h)
    | _ => none)) = some (pc', lv', st', h2) := hs
  repeat' split at hs
  all_goals first | (cases hs; done) | (cases hs; exact Or.inl rfl) | (cases hs; exact Or.inr ⟨rfl, shp_lt (by assumption)⟩)
theorem zn_i2b  {scr : Option (Nat × (Nat → Int32))} {own nL pc len : Nat} {ini : Bool} {lv lv' : LV} {st st' : List Value} {h h2 : Hp} {pc' : Nat} (hs : zStep scr own nL pc ini (.i2b) len lv st h = some (pc', lv', st', h2)) : h2.1 = h.1 ∨ (h2.1 = h.1 + 1 ∧ h.1 < 83) := by
  replace hs : ((match (generalizing := false) st with
    | .int x :: r => some (pc + 1, lv, .int x.toInt8.toInt32 :: r, h)
    | _ => none)) = some (pc', lv', st', h2) := hs
  repeat' split at hs
  all_goals first | (cases hs; done) | (cases hs; exact Or.inl rfl) | (cases hs; exact Or.inr ⟨rfl, shp_lt (by assumption)⟩)
theorem zn_l2i  {scr : Option (Nat × (Nat → Int32))} {own nL pc len : Nat} {ini : Bool} {lv lv' : LV} {st st' : List Value} {h h2 : Hp} {pc' : Nat} (hs : zStep scr own nL pc ini (.l2i) len lv st h = some (pc', lv', st', h2)) : h2.1 = h.1 ∨ (h2.1 = h.1 + 1 ∧ h.1 < 83) := by
  replace hs : ((match (generalizing := false) st with
    | .long x :: r => some (pc + 1, lv, .int x.toInt32 :: r, h)
    | _ => none)) = some (pc', lv', st', h2) := hs
  repeat' split at hs
  all_goals first | (cases hs; done) | (cases hs; exact Or.inl rfl) | (cases hs; exact Or.inr ⟨rfl, shp_lt (by assumption)⟩)
theorem zn_ladd  {scr : Option (Nat × (Nat → Int32))} {own nL pc len : Nat} {ini : Bool} {lv lv' : LV} {st st' : List Value} {h h2 : Hp} {pc' : Nat} (hs : zStep scr own nL pc ini (.ladd) len lv st h = some (pc', lv', st', h2)) : h2.1 = h.1 ∨ (h2.1 = h.1 + 1 ∧ h.1 < 83) := by
  replace hs : ((match (generalizing := false) st with
    | .long y :: .long x :: r => some (pc + 1, lv, .long (x + y) :: r, h)
    | _ => none)) = some (pc', lv', st', h2) := hs
  repeat' split at hs
  all_goals first | (cases hs; done) | (cases hs; exact Or.inl rfl) | (cases hs; exact Or.inr ⟨rfl, shp_lt (by assumption)⟩)
theorem zn_lsub  {scr : Option (Nat × (Nat → Int32))} {own nL pc len : Nat} {ini : Bool} {lv lv' : LV} {st st' : List Value} {h h2 : Hp} {pc' : Nat} (hs : zStep scr own nL pc ini (.lsub) len lv st h = some (pc', lv', st', h2)) : h2.1 = h.1 ∨ (h2.1 = h.1 + 1 ∧ h.1 < 83) := by
  replace hs : ((match (generalizing := false) st with
    | .long y :: .long x :: r => some (pc + 1, lv, .long (x - y) :: r, h)
    | _ => none)) = some (pc', lv', st', h2) := hs
  repeat' split at hs
  all_goals first | (cases hs; done) | (cases hs; exact Or.inl rfl) | (cases hs; exact Or.inr ⟨rfl, shp_lt (by assumption)⟩)
theorem zn_lmul  {scr : Option (Nat × (Nat → Int32))} {own nL pc len : Nat} {ini : Bool} {lv lv' : LV} {st st' : List Value} {h h2 : Hp} {pc' : Nat} (hs : zStep scr own nL pc ini (.lmul) len lv st h = some (pc', lv', st', h2)) : h2.1 = h.1 ∨ (h2.1 = h.1 + 1 ∧ h.1 < 83) := by
  replace hs : ((match (generalizing := false) st with
    | .long y :: .long x :: r => some (pc + 1, lv, .long (x * y) :: r, h)
    | _ => none)) = some (pc', lv', st', h2) := hs
  repeat' split at hs
  all_goals first | (cases hs; done) | (cases hs; exact Or.inl rfl) | (cases hs; exact Or.inr ⟨rfl, shp_lt (by assumption)⟩)
theorem zn_ldiv  {scr : Option (Nat × (Nat → Int32))} {own nL pc len : Nat} {ini : Bool} {lv lv' : LV} {st st' : List Value} {h h2 : Hp} {pc' : Nat} (hs : zStep scr own nL pc ini (.ldiv) len lv st h = some (pc', lv', st', h2)) : h2.1 = h.1 ∨ (h2.1 = h.1 + 1 ∧ h.1 < 83) := by
  replace hs : ((match (generalizing := false) st with
    | .long y :: .long x :: r => if y = 0 then none else some (pc + 1, lv, .long (x / y) :: r, h)
    | _ => none)) = some (pc', lv', st', h2) := hs
  repeat' split at hs
  all_goals first | (cases hs; done) | (cases hs; exact Or.inl rfl) | (cases hs; exact Or.inr ⟨rfl, shp_lt (by assumption)⟩)
theorem zn_lrem  {scr : Option (Nat × (Nat → Int32))} {own nL pc len : Nat} {ini : Bool} {lv lv' : LV} {st st' : List Value} {h h2 : Hp} {pc' : Nat} (hs : zStep scr own nL pc ini (.lrem) len lv st h = some (pc', lv', st', h2)) : h2.1 = h.1 ∨ (h2.1 = h.1 + 1 ∧ h.1 < 83) := by
  replace hs : ((match (generalizing := false) st with
    | .long y :: .long x :: r => if y = 0 then none else some (pc + 1, lv, .long (x - x / y * y) :: r, h)
    | _ => none)) = some (pc', lv', st', h2) := hs
  repeat' split at hs
  all_goals first | (cases hs; done) | (cases hs; exact Or.inl rfl) | (cases hs; exact Or.inr ⟨rfl, shp_lt (by assumption)⟩)
theorem zn_land  {scr : Option (Nat × (Nat → Int32))} {own nL pc len : Nat} {ini : Bool} {lv lv' : LV} {st st' : List Value} {h h2 : Hp} {pc' : Nat} (hs : zStep scr own nL pc ini (.land) len lv st h = some (pc', lv', st', h2)) : h2.1 = h.1 ∨ (h2.1 = h.1 + 1 ∧ h.1 < 83) := by
  replace hs : ((match (generalizing := false) st with
    | .long y :: .long x :: r => some (pc + 1, lv, .long (x &&& y) :: r, h)
    | _ => none)) = some (pc', lv', st', h2) := hs
  repeat' split at hs
  all_goals first | (cases hs; done) | (cases hs; exact Or.inl rfl) | (cases hs; exact Or.inr ⟨rfl, shp_lt (by assumption)⟩)
theorem zn_lor  {scr : Option (Nat × (Nat → Int32))} {own nL pc len : Nat} {ini : Bool} {lv lv' : LV} {st st' : List Value} {h h2 : Hp} {pc' : Nat} (hs : zStep scr own nL pc ini (.lor) len lv st h = some (pc', lv', st', h2)) : h2.1 = h.1 ∨ (h2.1 = h.1 + 1 ∧ h.1 < 83) := by
  replace hs : ((match (generalizing := false) st with
    | .long y :: .long x :: r => some (pc + 1, lv, .long (x ||| y) :: r, h)
    | _ => none)) = some (pc', lv', st', h2) := hs
  repeat' split at hs
  all_goals first | (cases hs; done) | (cases hs; exact Or.inl rfl) | (cases hs; exact Or.inr ⟨rfl, shp_lt (by assumption)⟩)
theorem zn_lshl  {scr : Option (Nat × (Nat → Int32))} {own nL pc len : Nat} {ini : Bool} {lv lv' : LV} {st st' : List Value} {h h2 : Hp} {pc' : Nat} (hs : zStep scr own nL pc ini (.lshl) len lv st h = some (pc', lv', st', h2)) : h2.1 = h.1 ∨ (h2.1 = h.1 + 1 ∧ h.1 < 83) := by
  replace hs : ((match (generalizing := false) st with
    | .int y :: .long x :: r => some (pc + 1, lv, .long (x <<< (y.toInt64 &&& 63)) :: r, h)
    | _ => none)) = some (pc', lv', st', h2) := hs
  repeat' split at hs
  all_goals first | (cases hs; done) | (cases hs; exact Or.inl rfl) | (cases hs; exact Or.inr ⟨rfl, shp_lt (by assumption)⟩)
theorem zn_lshr  {scr : Option (Nat × (Nat → Int32))} {own nL pc len : Nat} {ini : Bool} {lv lv' : LV} {st st' : List Value} {h h2 : Hp} {pc' : Nat} (hs : zStep scr own nL pc ini (.lshr) len lv st h = some (pc', lv', st', h2)) : h2.1 = h.1 ∨ (h2.1 = h.1 + 1 ∧ h.1 < 83) := by
  replace hs : ((match (generalizing := false) st with
    | .int y :: .long x :: r => some (pc + 1, lv, .long (x >>> (y.toInt64 &&& 63)) :: r, h)
    | _ => none)) = some (pc', lv', st', h2) := hs
  repeat' split at hs
  all_goals first | (cases hs; done) | (cases hs; exact Or.inl rfl) | (cases hs; exact Or.inr ⟨rfl, shp_lt (by assumption)⟩)
theorem zn_lcmp  {scr : Option (Nat × (Nat → Int32))} {own nL pc len : Nat} {ini : Bool} {lv lv' : LV} {st st' : List Value} {h h2 : Hp} {pc' : Nat} (hs : zStep scr own nL pc ini (.lcmp) len lv st h = some (pc', lv', st', h2)) : h2.1 = h.1 ∨ (h2.1 = h.1 + 1 ∧ h.1 < 83) := by
  replace hs : ((match (generalizing := false) st with
    | .long y :: .long x :: r => some (pc + 1, lv, .int (lg_cmp x y) :: r, h)
    | _ => none)) = some (pc', lv', st', h2) := hs
  repeat' split at hs
  all_goals first | (cases hs; done) | (cases hs; exact Or.inl rfl) | (cases hs; exact Or.inr ⟨rfl, shp_lt (by assumption)⟩)
theorem zn_goto (off : Int) {scr : Option (Nat × (Nat → Int32))} {own nL pc len : Nat} {ini : Bool} {lv lv' : LV} {st st' : List Value} {h h2 : Hp} {pc' : Nat} (hs : zStep scr own nL pc ini (.goto off) len lv st h = some (pc', lv', st', h2)) : h2.1 = h.1 ∨ (h2.1 = h.1 + 1 ∧ h.1 < 83) := by
  replace hs : ((match (generalizing := false) jmp pc off with
    | some t => some (t, lv, st, h)
    | none => none)) = some (pc', lv', st', h2) := hs
  repeat' split at hs
  all_goals first | (cases hs; done) | (cases hs; exact Or.inl rfl) | (cases hs; exact Or.inr ⟨rfl, shp_lt (by assumption)⟩)
theorem zn_if_icmp (c0 : ClassFile.Cond) (off : Int) {scr : Option (Nat × (Nat → Int32))} {own nL pc len : Nat} {ini : Bool} {lv lv' : LV} {st st' : List Value} {h h2 : Hp} {pc' : Nat} (hs : zStep scr own nL pc ini (.if_icmp c0 off) len lv st h = some (pc', lv', st', h2)) : h2.1 = h.1 ∨ (h2.1 = h.1 + 1 ∧ h.1 < 83) := by
  replace hs : ((match (generalizing := false) st with
    | .int y :: .int x :: r => (match (generalizing := false) jmp pc off with
      | some t => if cnd c0 x y = true then some (t, lv, r, h) else some (pc + 3, lv, r, h)
      | none => none)
    | _ => none)) = some (pc', lv', st', h2) := hs
  repeat' split at hs
  all_goals first | (cases hs; done) | (cases hs; exact Or.inl rfl) | (cases hs; exact Or.inr ⟨rfl, shp_lt (by assumption)⟩)
theorem zn_ifCond (c0 : ClassFile.Cond) (off : Int) {scr : Option (Nat × (Nat → Int32))} {own nL pc len : Nat} {ini : Bool} {lv lv' : LV} {st st' : List Value} {h h2 : Hp} {pc' : Nat} (hs : zStep scr own nL pc ini (.ifCond c0 off) len lv st h = some (pc', lv', st', h2)) : h2.1 = h.1 ∨ (h2.1 = h.1 + 1 ∧ h.1 < 83) := by
  replace hs : ((match (generalizing := false) st with
    | .int x :: r => (match (generalizing := false) jmp pc off with
      | some t => if cnd c0 x 0 = true then some (t, lv, r, h) else some (pc + 3, lv, r, h)
      | none => none)
    | _ => none)) = some (pc', lv', st', h2) := hs
  repeat' split at hs
  all_goals first | (cases hs; done) | (cases hs; exact Or.inl rfl) | (cases hs; exact Or.inr ⟨rfl, shp_lt (by assumption)⟩)
theorem zn_tableswitch (d lo hi : Int) (offs : Array Int) {scr : Option (Nat × (Nat → Int32))} {own nL pc len : Nat} {ini : Bool} {lv lv' : LV} {st st' : List Value} {h h2 : Hp} {pc' : Nat} (hs : zStep scr own nL pc ini (.tableswitch d lo hi offs) len lv st h = some (pc', lv', st', h2)) : h2.1 = h.1 ∨ (h2.1 = h.1 + 1 ∧ h.1 < 83) := by
  replace hs : ((match (generalizing := false) st with
    | .int x :: r => if x.toInt < lo ∨ hi < x.toInt then (match (generalizing := false) jmp pc d with
        | some t => some (t, lv, r, h)
        | none => none) else (match (generalizing := false) offs[(x.toInt - lo).toNat]? with
        | some off => (match (generalizing := false) jmp pc off with
          | some t => some (t, lv, r, h)
          | none => none)
        | none => none)
    | _ => none)) = some (pc', lv', st', h2) := hs
  repeat' split at hs
  all_goals first | (cases hs; done) | (cases hs; exact Or.inl rfl) | (cases hs; exact Or.inr ⟨rfl, shp_lt (by assumption)⟩)
theorem zn_lookupswitch (d : Int) (ps : Array (Int × Int)) {scr : Option (Nat × (Nat → Int32))} {own nL pc len : Nat} {ini : Bool} {lv lv' : LV} {st st' : List Value} {h h2 : Hp} {pc' : Nat} (hs : zStep scr own nL pc ini (.lookupswitch d ps) len lv st h = some (pc', lv', st', h2)) : h2.1 = h.1 ∨ (h2.1 = h.1 + 1 ∧ h.1 < 83) := by
  replace hs : ((match (generalizing := false) st with
    | .int x :: r => bif (ps.toList.zip (ps.toList.drop 1)).all (fun (a, next) => a.1 < next.1) then (match (generalizing := false) jmp pc (Op.lookupswitch.offset ps.toList d x.toInt) with
        | some t => some (t, lv, r, h)
        | none => none) else none
    | _ => none)) = some (pc', lv', st', h2) := hs
  simp only [Bool.cond_eq_ite] at hs
  repeat' split at hs
  all_goals first | (cases hs; done) | (cases hs; exact Or.inl rfl) | (cases hs; exact Or.inr ⟨rfl, shp_lt (by assumption)⟩)
theorem zn_getfield (ix : Nat) {scr : Option (Nat × (Nat → Int32))} {own nL pc len : Nat} {ini : Bool} {lv lv' : LV} {st st' : List Value} {h h2 : Hp} {pc' : Nat} (hs : zStep scr own nL pc ini (.getfield ix) len lv st h = some (pc', lv', st', h2)) : h2.1 = h.1 ∨ (h2.1 = h.1 + 1 ∧ h.1 < 83) := by
  replace hs : ((match (generalizing := false) st with
    | .ref i :: r => (match (generalizing := false) lkp (poolOf own) ix with
      | some (0, ci, k, _) => bif isO h i ci && Nat.blt k (nF ci) then some (pc + 3, lv, (bif isR ci k then rfV (h.2.2 i k) else .int (h.2.1 i k)) :: r, h) else none
      | some (1, ci, k, _) => bif isO h i ci && Nat.blt k (nF ci) then some (pc + 3, lv, (bif isR ci k then rfV (h.2.2 i k) else .int (h.2.1 i k)) :: r, h) else none
      | _ => none)
    | _ => none)) = some (pc', lv', st', h2) := hs
  simp only [Bool.cond_eq_ite] at hs
  repeat' split at hs
  all_goals first | (cases hs; done) | (cases hs; exact Or.inl rfl) | (cases hs; exact Or.inr ⟨rfl, shp_lt (by assumption)⟩)
theorem zn_putfield (ix : Nat) {scr : Option (Nat × (Nat → Int32))} {own nL pc len : Nat} {ini : Bool} {lv lv' : LV} {st st' : List Value} {h h2 : Hp} {pc' : Nat} (hs : zStep scr own nL pc ini (.putfield ix) len lv st h = some (pc', lv', st', h2)) : h2.1 = h.1 ∨ (h2.1 = h.1 + 1 ∧ h.1 < 83) := by
  replace hs : ((match (generalizing := false) st with
    | .int x :: .ref i :: r => (match (generalizing := false) lkp (poolOf own) ix with
      | some (0, ci, k, _) => bif isO h i ci && Nat.blt k (nF ci) && !isR ci k && !finF ci k then some (pc + 3, lv, r, (h.1, up2 h.2.1 i k x, h.2.2)) else none
      | some (1, ci, k, _) => bif isO h i ci && Nat.blt k (nF ci) && !isR ci k && !finF ci k then some (pc + 3, lv, r, (h.1, up2 h.2.1 i k x, h.2.2)) else none
      | _ => none)
    | .ref x :: .ref i :: r => (match (generalizing := false) lkp (poolOf own) ix with
      | some (0, ci, k, _) => bif isO h i ci && Nat.blt k (nF ci) && isR ci k && (!finF ci k || (ini && Nat.beq own ci)) then some (pc + 3, lv, r, (h.1, h.2.1, up2 h.2.2 i k (some x))) else none
      | _ => none)
    | _ => none)) = some (pc', lv', st', h2) := hs
  simp only [Bool.cond_eq_ite] at hs
  repeat' split at hs
  all_goals first | (cases hs; done) | (cases hs; exact Or.inl rfl) | (cases hs; exact Or.inr ⟨rfl, shp_lt (by assumption)⟩)
theorem zn_iaload  {scr : Option (Nat × (Nat → Int32))} {own nL pc len : Nat} {ini : Bool} {lv lv' : LV} {st st' : List Value} {h h2 : Hp} {pc' : Nat} (hs : zStep scr own nL pc ini (.iaload) len lv st h = some (pc', lv', st', h2)) : h2.1 = h.1 ∨ (h2.1 = h.1 + 1 ∧ h.1 < 83) := by
  replace hs : ((match (generalizing := false) st with
    | .int j :: .ref i :: r => bif Nat.beq i sId then (match (generalizing := false) scr with
      | some (L, xs) => bif inB j L then some (pc + 1, lv, .int (xs j.toNatClampNeg) :: r, h) else none
      | none => none) else (match (generalizing := false) arrL h i 0 with
      | some n => bif inB j n then some (pc + 1, lv, .int (h.2.1 i j.toNatClampNeg) :: r, h) else none
      | none => none)
    | _ => none)) = some (pc', lv', st', h2) := hs
  simp only [Bool.cond_eq_ite] at hs
  repeat' split at hs
  all_goals first | (cases hs; done) | (cases hs; exact Or.inl rfl) | (cases hs; exact Or.inr ⟨rfl, shp_lt (by assumption)⟩)
theorem zn_baload  {scr : Option (Nat × (Nat → Int32))} {own nL pc len : Nat} {ini : Bool} {lv lv' : LV} {st st' : List Value} {h h2 : Hp} {pc' : Nat} (hs : zStep scr own nL pc ini (.baload) len lv st h = some (pc', lv', st', h2)) : h2.1 = h.1 ∨ (h2.1 = h.1 + 1 ∧ h.1 < 83) := by
  replace hs : ((match (generalizing := false) st with
    | .int j :: .ref i :: r => (match (generalizing := false) arrL h i 1 with
      | some n => bif inB j n then some (pc + 1, lv, .int (h.2.1 i j.toNatClampNeg) :: r, h) else none
      | none => none)
    | _ => none)) = some (pc', lv', st', h2) := hs
  simp only [Bool.cond_eq_ite] at hs
  repeat' split at hs
  all_goals first | (cases hs; done) | (cases hs; exact Or.inl rfl) | (cases hs; exact Or.inr ⟨rfl, shp_lt (by assumption)⟩)
theorem zn_aaload  {scr : Option (Nat × (Nat → Int32))} {own nL pc len : Nat} {ini : Bool} {lv lv' : LV} {st st' : List Value} {h h2 : Hp} {pc' : Nat} (hs : zStep scr own nL pc ini (.aaload) len lv st h = some (pc', lv', st', h2)) : h2.1 = h.1 ∨ (h2.1 = h.1 + 1 ∧ h.1 < 83) := by
  replace hs : ((match (generalizing := false) st with
    | .int j :: .ref i :: r => (match (generalizing := false) arrL h i 2 with
      | some n => bif inB j n then some (pc + 1, lv, rfV (h.2.2 i j.toNatClampNeg) :: r, h) else none
      | none => none)
    | _ => none)) = some (pc', lv', st', h2) := hs
  simp only [Bool.cond_eq_ite] at hs
  repeat' split at hs
  all_goals first | (cases hs; done) | (cases hs; exact Or.inl rfl) | (cases hs; exact Or.inr ⟨rfl, shp_lt (by assumption)⟩)
theorem zn_iastore  {scr : Option (Nat × (Nat → Int32))} {own nL pc len : Nat} {ini : Bool} {lv lv' : LV} {st st' : List Value} {h h2 : Hp} {pc' : Nat} (hs : zStep scr own nL pc ini (.iastore) len lv st h = some (pc', lv', st', h2)) : h2.1 = h.1 ∨ (h2.1 = h.1 + 1 ∧ h.1 < 83) := by
  replace hs : ((match (generalizing := false) st with
    | .int x :: .int j :: .ref i :: r => (match (generalizing := false) arrL h i 0 with
      | some n => bif inB j n then some (pc + 1, lv, r, (h.1, up2 h.2.1 i j.toNatClampNeg x, h.2.2)) else none
      | none => none)
    | _ => none)) = some (pc', lv', st', h2) := hs
  simp only [Bool.cond_eq_ite] at hs
  repeat' split at hs
  all_goals first | (cases hs; done) | (cases hs; exact Or.inl rfl) | (cases hs; exact Or.inr ⟨rfl, shp_lt (by assumption)⟩)
theorem zn_bastore  {scr : Option (Nat × (Nat → Int32))} {own nL pc len : Nat} {ini : Bool} {lv lv' : LV} {st st' : List Value} {h h2 : Hp} {pc' : Nat} (hs : zStep scr own nL pc ini (.bastore) len lv st h = some (pc', lv', st', h2)) : h2.1 = h.1 ∨ (h2.1 = h.1 + 1 ∧ h.1 < 83) := by
  replace hs : ((match (generalizing := false) st with
    | .int x :: .int j :: .ref i :: r => (match (generalizing := false) arrL h i 1 with
      | some n => bif inB j n then some (pc + 1, lv, r, (h.1, up2 h.2.1 i j.toNatClampNeg (vp_nar .byte x), h.2.2)) else none
      | none => none)
    | _ => none)) = some (pc', lv', st', h2) := hs
  simp only [Bool.cond_eq_ite] at hs
  repeat' split at hs
  all_goals first | (cases hs; done) | (cases hs; exact Or.inl rfl) | (cases hs; exact Or.inr ⟨rfl, shp_lt (by assumption)⟩)
theorem zn_aastore  {scr : Option (Nat × (Nat → Int32))} {own nL pc len : Nat} {ini : Bool} {lv lv' : LV} {st st' : List Value} {h h2 : Hp} {pc' : Nat} (hs : zStep scr own nL pc ini (.aastore) len lv st h = some (pc', lv', st', h2)) : h2.1 = h.1 ∨ (h2.1 = h.1 + 1 ∧ h.1 < 83) := by
  replace hs : ((match (generalizing := false) st with
    | .ref x :: .int j :: .ref i :: r => (match (generalizing := false) arrL h i 2 with
      | some n => bif inB j n && isO h x 5 then some (pc + 1, lv, r, (h.1, h.2.1, up2 h.2.2 i j.toNatClampNeg (some x))) else none
      | none => none)
    | _ => none)) = some (pc', lv', st', h2) := hs
  simp only [Bool.cond_eq_ite] at hs
  repeat' split at hs
  all_goals first | (cases hs; done) | (cases hs; exact Or.inl rfl) | (cases hs; exact Or.inr ⟨rfl, shp_lt (by assumption)⟩)
theorem zn_arraylength  {scr : Option (Nat × (Nat → Int32))} {own nL pc len : Nat} {ini : Bool} {lv lv' : LV} {st st' : List Value} {h h2 : Hp} {pc' : Nat} (hs : zStep scr own nL pc ini (.arraylength) len lv st h = some (pc', lv', st', h2)) : h2.1 = h.1 ∨ (h2.1 = h.1 + 1 ∧ h.1 < 83) := by
  replace hs : ((match (generalizing := false) st with
    | .ref i :: r => bif Nat.beq i sId then (match (generalizing := false) scr with
      | some (L, _) => some (pc + 1, lv, .int (Int32.ofNat L) :: r, h)
      | none => none) else (match (generalizing := false) arrL h i 0 with
      | some n => some (pc + 1, lv, .int (Int32.ofNat n) :: r, h)
      | none => none)
    | _ => none)) = some (pc', lv', st', h2) := hs
  simp only [Bool.cond_eq_ite] at hs
  repeat' split at hs
  all_goals first | (cases hs; done) | (cases hs; exact Or.inl rfl) | (cases hs; exact Or.inr ⟨rfl, shp_lt (by assumption)⟩)
theorem zn_new (ix : Nat) {scr : Option (Nat × (Nat → Int32))} {own nL pc len : Nat} {ini : Bool} {lv lv' : LV} {st st' : List Value} {h h2 : Hp} {pc' : Nat} (hs : zStep scr own nL pc ini (.new ix) len lv st h = some (pc', lv', st', h2)) : h2.1 = h.1 ∨ (h2.1 = h.1 + 1 ∧ h.1 < 83) := by
  replace hs : ((match (generalizing := false) lkp (poolOf own) ix with
    | some (11, ci, _, _) => (match (generalizing := false) shp[h.1]? with
      | some (.inl c) => bif Nat.beq c ci then some (pc + 3, lv, .ref h.1 :: st, (h.1 + 1, (fun a => if a = h.1 then (fun _ => 0) else h.2.1 a), (fun a => if a = h.1 then (fun _ => none) else h.2.2 a))) else none
      | _ => none)
    | _ => none)) = some (pc', lv', st', h2) := hs
  simp only [Bool.cond_eq_ite] at hs
  repeat' split at hs
  all_goals first | (cases hs; done) | (cases hs; exact Or.inl rfl) | (cases hs; exact Or.inr ⟨rfl, shp_lt (by assumption)⟩)
theorem zn_newarray (ty : ArrayType) {scr : Option (Nat × (Nat → Int32))} {own nL pc len : Nat} {ini : Bool} {lv lv' : LV} {st st' : List Value} {h h2 : Hp} {pc' : Nat} (hs : zStep scr own nL pc ini (.newarray ty) len lv st h = some (pc', lv', st', h2)) : h2.1 = h.1 ∨ (h2.1 = h.1 + 1 ∧ h.1 < 83) := by
  replace hs : ((match (generalizing := false) st with
    | .int n :: r => (match (generalizing := false) shp[h.1]? with
      | some (.inr (t, N)) => bif ((Nat.beq t 0 && decide (ty = .int)) || (Nat.beq t 1 && decide (ty = .byte))) && decide (0 ≤ n.toInt) && Nat.beq n.toNatClampNeg N then some (pc + 2, lv, .ref h.1 :: r, (h.1 + 1, (fun a => if a = h.1 then (fun _ => 0) else h.2.1 a), (fun a => if a = h.1 then (fun _ => none) else h.2.2 a))) else none
      | _ => none)
    | _ => none)) = some (pc', lv', st', h2) := hs
  simp only [Bool.cond_eq_ite] at hs
  repeat' split at hs
  all_goals first | (cases hs; done) | (cases hs; exact Or.inl rfl) | (cases hs; exact Or.inr ⟨rfl, shp_lt (by assumption)⟩)
theorem zn_anewarray (ix : Nat) {scr : Option (Nat × (Nat → Int32))} {own nL pc len : Nat} {ini : Bool} {lv lv' : LV} {st st' : List Value} {h h2 : Hp} {pc' : Nat} (hs : zStep scr own nL pc ini (.anewarray ix) len lv st h = some (pc', lv', st', h2)) : h2.1 = h.1 ∨ (h2.1 = h.1 + 1 ∧ h.1 < 83) := by
  replace hs : ((match (generalizing := false) st with
    | .int n :: r => (match (generalizing := false) lkp (poolOf own) ix with
      | some (11, 5, _, _) => (match (generalizing := false) shp[h.1]? with
        | some (.inr (t, N)) => bif Nat.beq t 2 && decide (0 ≤ n.toInt) && Nat.beq n.toNatClampNeg N then some (pc + 3, lv, .ref h.1 :: r, (h.1 + 1, (fun a => if a = h.1 then (fun _ => 0) else h.2.1 a), (fun a => if a = h.1 then (fun _ => none) else h.2.2 a))) else none
        | _ => none)
      | _ => none)
    | _ => none)) = some (pc', lv', st', h2) := hs
  simp only [Bool.cond_eq_ite] at hs
  repeat' split at hs
  all_goals first | (cases hs; done) | (cases hs; exact Or.inl rfl) | (cases hs; exact Or.inr ⟨rfl, shp_lt (by assumption)⟩)
theorem zn_invokespecial (ix : Nat) {scr : Option (Nat × (Nat → Int32))} {own nL pc len : Nat} {ini : Bool} {lv lv' : LV} {st st' : List Value} {h h2 : Hp} {pc' : Nat} (hs : zStep scr own nL pc ini (.invokespecial ix) len lv st h = some (pc', lv', st', h2)) : h2.1 = h.1 ∨ (h2.1 = h.1 + 1 ∧ h.1 < 83) := by
  replace hs : ((match (generalizing := false) st with
    | .ref _ :: r => (match (generalizing := false) lkp (poolOf own) ix with
      | some (7, _, _, _) => bif Nat.ble (catS r) 8 then some (pc + 3, lv, r, h) else none
      | _ => none)
    | _ => none)) = some (pc', lv', st', h2) := hs
  simp only [Bool.cond_eq_ite] at hs
  repeat' split at hs
  all_goals first | (cases hs; done) | (cases hs; exact Or.inl rfl) | (cases hs; exact Or.inr ⟨rfl, shp_lt (by assumption)⟩)
theorem zn_invokestatic (ix : Nat) {scr : Option (Nat × (Nat → Int32))} {own nL pc len : Nat} {ini : Bool} {lv lv' : LV} {st st' : List Value} {h h2 : Hp} {pc' : Nat} (hs : zStep scr own nL pc ini (.invokestatic ix) len lv st h = some (pc', lv', st', h2)) : h2.1 = h.1 ∨ (h2.1 = h.1 + 1 ∧ h.1 < 83) := by
  replace hs : ((match (generalizing := false) lkp (poolOf own) ix with
    | some (8, _, _, _) => (match (generalizing := false) st with
      | .int n :: .int dp :: .ref d :: .int sp :: .ref a :: r => (match (generalizing := false) arrL h a 0 with
        | some n0 => (match (generalizing := false) arrL h d 0 with
          | some n1 => bif decide (0 ≤ n.toInt) && decide (0 ≤ dp.toInt) && decide (0 ≤ sp.toInt) && Nat.ble (sp.toNatClampNeg + n.toNatClampNeg) n0 && Nat.ble (dp.toNatClampNeg + n.toNatClampNeg) n1 && Nat.ble (catS r) 8 then
              some (pc + 3, lv, r, (h.1, (fun x => if x = d then va_cpy (h.2.1 a) (h.2.1 d) sp.toNatClampNeg dp.toNatClampNeg n.toNatClampNeg else h.2.1 x), h.2.2)) else none
          | none => none)
        | none => none)
      | _ => none)
    | some (13, _, _, _) => (match (generalizing := false) st with
      | .int y :: .int x :: r => bif Nat.ble (catS r) 8 then some (pc + 3, lv, .int (if x < y then y else x) :: r, h) else none
      | _ => none)
    | some (14, _, _, _) => (match (generalizing := false) st with
      | .int y :: .int x :: r => bif Nat.ble (catS r) 8 then some (pc + 3, lv, .int (if y < x then y else x) :: r, h) else none
      | _ => none)
    | _ => none)) = some (pc', lv', st', h2) := hs
  simp only [Bool.cond_eq_ite] at hs
  repeat' split at hs
  all_goals first | (cases hs; done) | (cases hs; exact Or.inl rfl) | (cases hs; exact Or.inr ⟨rfl, shp_lt (by assumption)⟩)
theorem zStep_n {ins : Instr} {scr : Option (Nat × (Nat → Int32))} {own nL pc len : Nat} {ini : Bool} {lv lv' : LV} {st st' : List Value} {h h2 : Hp} {pc' : Nat} (hs : zStep scr own nL pc ini ins len lv st h = some (pc', lv', st', h2)) : h2.1 = h.1 ∨ (h2.1 = h.1 + 1 ∧ h.1 < 83) := by
  cases ins with
  | iconst i => exact zn_iconst i hs
  | bipush i => exact zn_bipush i hs
  | sipush i => exact zn_sipush i hs
  | lconst i => exact zn_lconst i hs
  | ldc ix => exact zn_ldc ix hs
  | ldc_w ix => exact zn_ldc_w ix hs
  | ldc2_w ix => exact zn_ldc2_w ix hs
  | iload_n i => exact zn_iload_n i hs
  | iload i => exact zn_iload i hs
  | lload_n i => exact zn_lload_n i hs
  | lload i => exact zn_lload i hs
  | aload_n i => exact zn_aload_n i hs
  | aload i => exact zn_aload i hs
  | istore_n i => exact zn_istore_n i hs
  | istore i => exact zn_istore i hs
  | lstore_n i => exact zn_lstore_n i hs
  | lstore i => exact zn_lstore i hs
  | astore_n i => exact zn_astore_n i hs
  | astore i => exact zn_astore i hs
  | iinc i n => exact zn_iinc i n hs
  | dup => exact zn_dup  hs
  | dup2 => exact zn_dup2  hs
  | pop => exact zn_pop  hs
  | iadd => exact zn_iadd  hs
  | isub => exact zn_isub  hs
  | imul => exact zn_imul  hs
  | idiv => exact zn_idiv  hs
  | irem => exact zn_irem  hs
  | ineg => exact zn_ineg  hs
  | ishl => exact zn_ishl  hs
  | ishr => exact zn_ishr  hs
  | iushr => exact zn_iushr  hs
  | iand => exact zn_iand  hs
  | ior => exact zn_ior  hs
  | ixor => exact zn_ixor  hs
  | i2l => exact zn_i2l  hs
  | i2b => exact zn_i2b  hs
  | l2i => exact zn_l2i  hs
  | ladd => exact zn_ladd  hs
  | lsub => exact zn_lsub  hs
  | lmul => exact zn_lmul  hs
  | ldiv => exact zn_ldiv  hs
  | lrem => exact zn_lrem  hs
  | land => exact zn_land  hs
  | lor => exact zn_lor  hs
  | lshl => exact zn_lshl  hs
  | lshr => exact zn_lshr  hs
  | lcmp => exact zn_lcmp  hs
  | goto off => exact zn_goto off hs
  | if_icmp c0 off => exact zn_if_icmp c0 off hs
  | ifCond c0 off => exact zn_ifCond c0 off hs
  | tableswitch d lo hi offs => exact zn_tableswitch d lo hi offs hs
  | lookupswitch d ps => exact zn_lookupswitch d ps hs
  | getfield ix => exact zn_getfield ix hs
  | putfield ix => exact zn_putfield ix hs
  | iaload => exact zn_iaload  hs
  | baload => exact zn_baload  hs
  | aaload => exact zn_aaload  hs
  | iastore => exact zn_iastore  hs
  | bastore => exact zn_bastore  hs
  | aastore => exact zn_aastore  hs
  | arraylength => exact zn_arraylength  hs
  | new ix => exact zn_new ix hs
  | newarray ty => exact zn_newarray ty hs
  | anewarray ix => exact zn_anewarray ix hs
  | invokespecial ix => exact zn_invokespecial ix hs
  | invokestatic ix => exact zn_invokestatic ix hs
  | _ => exact nomatch (show (none : Option Cfg) = some _ from hs)
theorem z_mono : ∀ (n : Nat) (scr : Option (Nat × (Nat → Int32))) (me : ME) (pc : Nat) (lv : LV) (st : List Value) (h : Hp) (r : Option Value) (h' : Hp), zRun scr n me pc lv st h = some (r, h') → h.1 ≤ 83 → h.1 ≤ h'.1 ∧ h'.1 ≤ 83 := by
  intro n
  induction n with
  | zero => intro scr me pc lv st h r h' hrun; cases hrun
  | succ n ih =>
    intro scr me pc lv st h r h' hrun h83
    unfold zRun at hrun
    split at hrun
    · cases hrun
    · split at hrun
      · cases hrun; exact ⟨Nat.le_refl _, h83⟩
      · split at hrun
        · split at hrun
          next r1 h1 h1run =>
            have a := ih _ _ _ _ _ _ _ _ h1run h83
            have b := ih _ _ _ _ _ _ _ _ hrun a.2
            exact ⟨Nat.le_trans a.1 b.1, b.2⟩
          next => cases hrun
        · split at hrun
          next pc' lv' st' h2 hst =>
            have a := zStep_n hst
            have b := ih _ _ _ _ _ _ _ _ hrun (by omega)
            omega
          next => cases hrun
theorem zCallR_spec {h : Hp} {k b : Nat} {st as rest : List Value} {me : ME} (e : zCallR h k b st = some (me, as, rest)) : MT[k]? = some me ∧ ∃ i, st.drop b = .ref i :: rest ∧ as = .ref i :: (st.take b).reverse ∧ isO h i me.1 = true ∧ catS rest ≤ 8 ∧ catS as ≤ me.2.2.2.1 := by
  unfold zCallR at e
  split at e
  next me1 hm =>
    split at e
    next i r hdr =>
      cases hb : isO h i me1.1 && Nat.ble (catS r) 8 && Nat.ble (catS (.ref i :: (st.take b).reverse)) me1.2.2.2.1 with
      | false => rw [hb] at e; cases e
      | true =>
        rw [hb] at e
        cases e
        simp only [Bool.and_eq_true, Nat.ble_eq] at hb
        exact ⟨hm, i, hdr, rfl, hb.1.1, hb.1.2, hb.2⟩
    next => cases e
  next => cases e
theorem zCallT_spec {k b : Nat} {st as rest : List Value} {me : ME} (e : zCallT k b st = some (me, as, rest)) : MT[k]? = some me ∧ b ≤ st.length ∧ rest = st.drop b ∧ as = (st.take b).reverse ∧ catS rest ≤ 8 ∧ catS as ≤ me.2.2.2.1 := by
  unfold zCallT at e
  split at e
  next me1 hm =>
    cases hb : Nat.ble b st.length && Nat.ble (catS (st.drop b)) 8 && Nat.ble (catS (st.take b).reverse) me1.2.2.2.1 with
    | false => rw [hb] at e; cases e
    | true =>
      rw [hb] at e
      cases e
      simp only [Bool.and_eq_true, Nat.ble_eq] at hb
      exact ⟨hm, hb.1.1, rfl, rfl, hb.1.2, hb.2⟩
  next => cases e
theorem room_of {me me' : ME} {ix k b t : Nat} {v : Int} (hroom : rOKb.rOK2 me ix = true) (hp : lkp (poolOf me.1) ix = some (t, k, b, v)) (ht : t < 7) (hm : MT[k]? = some me') : me'.2.2.2.2.2.2.1 + 1 ≤ me.2.2.2.2.2.2.1 ∧ 8 + (me'.2.2.2.1 + 11) + me'.2.2.2.2.2.2.2 ≤ me.2.2.2.2.2.2.2 := by
  unfold rOKb.rOK2 at hroom
  rw [hp] at hroom
  have key : (match (generalizing := false) MT[k]? with
      | some me' => Nat.ble (me'.2.2.2.2.2.2.1 + 1) me.2.2.2.2.2.2.1 && Nat.ble (8 + (me'.2.2.2.1 + 11) + me'.2.2.2.2.2.2.2) me.2.2.2.2.2.2.2
      | none => false) = true := by
    match t, ht, hroom with
    | 0, _, hroom => exact hroom
    | 1, _, hroom => exact hroom
    | 2, _, hroom => exact hroom
    | 3, _, hroom => exact hroom
    | 4, _, hroom => exact hroom
    | 5, _, hroom => exact hroom
    | 6, _, hroom => exact hroom
  rw [hm] at key
  simpa using key
theorem cat_cv (β : Nat → Nat) (r : List Value) : ((r.map (cv β)).map fun v => v.category).sum = catS r := by
  simp [catS, Function.comp_def, cv_cat]
theorem heap_size {D : va_G} {cT : CT} {β : Nat → Nat} {base n0 : Nat} {h : Hp} {H H0 : Heap} {locs : List Loc} (hβ : ∀ i, i < 4096 → β i = base + i) (h83 : h.1 ≤ 83) (hn0 : n0 ≤ h.1) (hsz : H0.size = base + n0) (hP : va_P D vwCl (wsOf β cT h) H) (hS : va_S (fun q => base ≤ q) H0 H locs) (hz : H.size ≤ H0.size + (h.1 - n0)) : H.size = base + h.1 := by
  by_cases h0 : h.1 = 0
  · have := hS.1
    omega
  · have hlt : β (h.1 - 1) < H.size := (hP (h.1 - 1) _ (wsOf_at (by omega))).lt
    rw [hβ _ (by omega)] at hlt
    omega

set_option maxHeartbeats 1000000 in
theorem zc_invokevirtual (ix : Nat) {p : Program} {l : Launch} {e : Env} {R : Room} {s : State} {m : MethodId} {args : Array Value} {below : List Frame} {meth : Method} {c : Code} {D : va_G} {cT : CT} {β : Nat → Nat} {base : Nat} {me me' : ME} {Ts : List Cond} {n0 n : Nat} (C : Ctx p s m args meth c D cT base me Ts n0) (hβ : ∀ i, i < 4096 → β i = base + i) {pc len : Nat} {lv : LV} {st as rest : List Value} {h h1 : Hp} {r1 : Option Value} (hB : Body l D cT β base n) (hc : zCall me.1 h (.invokevirtual ix) st = some (me', as, rest)) (h1run : zRun none n me' 0 (lv_args 0 as) [] h = some (r1, h1)) (hd : decode me.2.2.1 pc = .ok (.invokevirtual ix, len)) (hlen : lenOK (.invokevirtual ix) len = true) (hroom : rOKb me (pc, .invokevirtual ix, len) = true) (hR : (me.2.2.2.2.2.2.1 ≤ R.frames ∧ me.2.2.2.2.2.2.2 ≤ R.locals) ∧ h1.1 - n0 ≤ R.cells ∧ szS h1.1 - szS n0 ≤ R.slots) (hn0 : n0 ≤ h.1) (h83 : h.1 ≤ 83) (hmono : h.1 ≤ h1.1) {H : Heap} {locs : List Loc} {ls : Array Slot} {Q : State → Prop} (hl : lv_has ls me.2.2.2.1 (cvL β lv)) (hP : va_P D vwCl (wsOf β cT h) H) (hS : va_S (fun q => base ≤ q) s.heap H locs)
    (K : ∀ (H' : Heap) (locs' : List Loc), va_P D vwCl (wsOf β cT h1) H' → va_S (fun q => base ≤ q) s.heap H' locs' → W p l e R s m args below meth c H' locs' (h1.1 - n0) (szS h1.1 - szS n0) Q (F0 m (pc + 3) ls ((r1.toList ++ rest).map (cv β)))) :
    W p l e R s m args below meth c H locs (h.1 - n0) (szS h.1 - szS n0) Q (F0 m pc ls (st.map (cv β))) := by
  obtain ⟨hx, hb, hml, hown, hts, hG, hK, hsz, hmk, hini⟩ := C
  have hlen1 : len = 3 := Nat.eq_of_beq_eq_true hlen
  subst hlen1
  refine W_size (fun hz => ?_)
  have hsize := heap_size hβ h83 hn0 hsz hP hS hz
  have hs1 := szS_mono hn0
  have hs2 := szS_mono hmono
  unfold zCall at hc
  dsimp only at hc
  split at hc
  next k b v hp =>
    obtain ⟨hm, i, hdr, has, ho, hcr, hcat⟩ := zCallR_spec hc
    subst has
    obtain ⟨me2, ⟨hm2, m1, m2, m3, wi, wc⟩, wl, wn, wse⟩ := pool_V hp
    cases hm2.symm.trans hm
    have hmk2 : mOK me' := mt_ok me' (List.mem_of_getElem? hm)
    have hrm := room_of (show rOKb.rOK2 me ix = true from hroom) hp (by decide) hm
    have hM := met_of_body hB hmk2 h1run hcat h83
    obtain ⟨hi, hsh⟩ := isO_spec ho
    obtain ⟨Cn, T, N, hcn⟩ := cls_of_shp hsh
    obtain ⟨ty, hin, hN, hCn, hty, hnm, hf⟩ := cls_ok hcn
    have hrc := va_recv hK.1 hP hcn (by rw [wsOf_at hi, cell_obj hsh])
    replace hrc : ∃ cell : Cell, H[β i]? = some cell ∧ cell.vm.isStatics = false ∧ s.vm.findClass me'.2.1.cls = some cell.cls := by
      rw [(mOK_name hmk2).1, ← hCn]; exact hrc
    have hlt : b < st.length := by
      rcases Nat.lt_or_ge b st.length with q | q
      · exact q
      · rw [List.drop_eq_nil_of_le q] at hdr; cases hdr
    have hst : st.map (cv β) = (((st.take b).reverse).map (cv β)).reverse ++ .ref (β i) :: rest.map (cv β) := by
      rw [← List.map_reverse, List.reverse_reverse, show (Value.ref (β i) :: rest.map (cv β)) = (Value.ref i :: rest).map (cv β) from rfl, ← hdr, ← List.map_append, List.take_append_drop]
    have hAl : (((st.take b).reverse).map (cv β)).length = b := by simp; omega
    refine z_call (va_runV (C := me'.2.1.cls) (As := ((st.take b).reverse).map (cv β)) (rest := rest.map (cv β)) ⟨hx, hb, hml, hown, hts⟩ hM ⟨callB_of (ws' := gTbl) b hts (wsM_good hG wc) rfl rfl rfl (hts _ (hG _ wi)) (hts _ (hG _ wl)) ⟨m1, m2, m3⟩ ⟨by show _ + 1 ≤ _; have := hR.1.1; have := hrm.1; simp only [rmM]; omega, by have := hR.1.2; have := hrm.2; simp only [rmM]; omega⟩, hts _ (hG _ wn), hts _ (hG _ wse)⟩ ⟨PcM_blind, hrc, fun U hU hW => ⟨rfl, by rw [hU]; exact hsize, by rw [hU]; exact hP, hK.moved hW⟩⟩ rfl hAl hl.1 hst (lv_room (by rw [cat_cv]; exact hcr)) hd ⟨by omega, by omega⟩) hS (fun q h => h) (fun H1 locs1 hP1 hS1 => ?_)
    have k1 := K H1 locs1 hP1 hS1
    rw [show h.1 - n0 + (h1.1 - h.1) = h1.1 - n0 by omega, show szS h.1 - szS n0 + (szS h1.1 - szS h.1) = szS h1.1 - szS n0 by omega]
    rw [List.map_append, show r1.toList.map (cv β) = (r1.map (cv β)).toList by cases r1 <;> rfl] at k1
    exact k1
  next => cases hc
set_option maxHeartbeats 1000000 in
theorem zc_invokestatic (ix : Nat) {p : Program} {l : Launch} {e : Env} {R : Room} {s : State} {m : MethodId} {args : Array Value} {below : List Frame} {meth : Method} {c : Code} {D : va_G} {cT : CT} {β : Nat → Nat} {base : Nat} {me me' : ME} {Ts : List Cond} {n0 n : Nat} (C : Ctx p s m args meth c D cT base me Ts n0) (hβ : ∀ i, i < 4096 → β i = base + i) {pc len : Nat} {lv : LV} {st as rest : List Value} {h h1 : Hp} {r1 : Option Value} (hB : Body l D cT β base n) (hc : zCall me.1 h (.invokestatic ix) st = some (me', as, rest)) (h1run : zRun none n me' 0 (lv_args 0 as) [] h = some (r1, h1)) (hd : decode me.2.2.1 pc = .ok (.invokestatic ix, len)) (hlen : lenOK (.invokestatic ix) len = true) (hroom : rOKb me (pc, .invokestatic ix, len) = true) (hR : (me.2.2.2.2.2.2.1 ≤ R.frames ∧ me.2.2.2.2.2.2.2 ≤ R.locals) ∧ h1.1 - n0 ≤ R.cells ∧ szS h1.1 - szS n0 ≤ R.slots) (hn0 : n0 ≤ h.1) (h83 : h.1 ≤ 83) (hmono : h.1 ≤ h1.1) {H : Heap} {locs : List Loc} {ls : Array Slot} {Q : State → Prop} (hl : lv_has ls me.2.2.2.1 (cvL β lv)) (hP : va_P D vwCl (wsOf β cT h) H) (hS : va_S (fun q => base ≤ q) s.heap H locs)
    (K : ∀ (H' : Heap) (locs' : List Loc), va_P D vwCl (wsOf β cT h1) H' → va_S (fun q => base ≤ q) s.heap H' locs' → W p l e R s m args below meth c H' locs' (h1.1 - n0) (szS h1.1 - szS n0) Q (F0 m (pc + 3) ls ((r1.toList ++ rest).map (cv β)))) :
    W p l e R s m args below meth c H locs (h.1 - n0) (szS h.1 - szS n0) Q (F0 m pc ls (st.map (cv β))) := by
  obtain ⟨hx, hb, hml, hown, hts, hG, hK, hsz, hmk, hini⟩ := C
  have hlen1 : len = 3 := Nat.eq_of_beq_eq_true hlen
  subst hlen1
  refine W_size (fun hz => ?_)
  have hsize := heap_size hβ h83 hn0 hsz hP hS hz
  have hs1 := szS_mono hn0
  have hs2 := szS_mono hmono
  unfold zCall at hc
  dsimp only at hc
  split at hc
  next k b v hp =>
    obtain ⟨hm, hbl, hrest, has, hcr, hcat⟩ := zCallT_spec hc
    subst has; subst hrest
    obtain ⟨me2, ⟨hm2, m1, m2, m3, wi, wc⟩, wl, wn⟩ := pool_S hp
    cases hm2.symm.trans hm
    have hmk2 : mOK me' := mt_ok me' (List.mem_of_getElem? hm)
    have hrm := room_of (show rOKb.rOK2 me ix = true from hroom) hp (by decide) hm
    have hM := met_of_body hB hmk2 h1run hcat h83
    have hst : st.map (cv β) = (((st.take b).reverse).map (cv β)).reverse ++ (st.drop b).map (cv β) := by
      rw [← List.map_reverse, List.reverse_reverse, ← List.map_append, List.take_append_drop]
    have hAl : (((st.take b).reverse).map (cv β)).length = b := by simp; omega
    refine z_call (va_runS (As := ((st.take b).reverse).map (cv β)) (rest := (st.drop b).map (cv β)) ⟨hx, hb, hml, hown, hts⟩ hM ⟨callB_of (ws' := gTbl) b hts (wsM_good hG wc) rfl rfl rfl (hts _ (hG _ wi)) (hts _ (hG _ wl)) ⟨m1, m2, m3⟩ ⟨by show _ + 1 ≤ _; have := hR.1.1; have := hrm.1; simp only [rmM]; omega, by have := hR.1.2; have := hrm.2; simp only [rmM]; omega⟩, hts _ (hG _ wn)⟩ ⟨PcM_blind, fun U hU hW => ⟨rfl, by rw [hU]; exact hsize, by rw [hU]; exact hP, hK.moved hW⟩⟩ rfl hAl hl.1 hst (lv_room (by rw [cat_cv]; exact hcr)) hd ⟨by omega, by omega⟩) hS (fun q h => h) (fun H1 locs1 hP1 hS1 => ?_)
    have k1 := K H1 locs1 hP1 hS1
    rw [show h.1 - n0 + (h1.1 - h.1) = h1.1 - n0 by omega, show szS h.1 - szS n0 + (szS h1.1 - szS h.1) = szS h1.1 - szS n0 by omega]
    rw [List.map_append, show r1.toList.map (cv β) = (r1.map (cv β)).toList by cases r1 <;> rfl] at k1
    exact k1
  next k b v hp =>
    obtain ⟨hm, hbl, hrest, has, hcr, hcat⟩ := zCallT_spec hc
    subst has; subst hrest
    obtain ⟨me2, ⟨hm2, m1, m2, m3, wi, wc⟩, wl, wn⟩ := pool_SN hp
    cases hm2.symm.trans hm
    have hmk2 : mOK me' := mt_ok me' (List.mem_of_getElem? hm)
    have hrm := room_of (show rOKb.rOK2 me ix = true from hroom) hp (by decide) hm
    have hM := met_of_body hB hmk2 h1run hcat h83
    have hst : st.map (cv β) = (((st.take b).reverse).map (cv β)).reverse ++ (st.drop b).map (cv β) := by
      rw [← List.map_reverse, List.reverse_reverse, ← List.map_append, List.take_append_drop]
    have hAl : (((st.take b).reverse).map (cv β)).length = b := by simp; omega
    refine z_call (va_runSN (As := ((st.take b).reverse).map (cv β)) (rest := (st.drop b).map (cv β)) ⟨hx, hb, hml, hown, hts⟩ hM ⟨va_cnB (ws' := gTbl) b hts (wsM_good hG wc) rfl rfl rfl (hK.2.1 _ wl) (hts _ (hG _ wi)) ⟨m1, m2, m3⟩ ⟨by show _ + 1 ≤ _; have := hR.1.1; have := hrm.1; simp only [rmM]; omega, by have := hR.1.2; have := hrm.2; simp only [rmM]; omega⟩, hts _ (hG _ wn), trivial⟩ ⟨PcM_blind, fun U hU hW => ⟨rfl, by rw [hU]; exact hsize, by rw [hU]; exact hP, hK.moved hW⟩⟩ rfl hAl hl.1 hst (lv_room (by rw [cat_cv]; exact hcr)) hd ⟨by omega, by omega⟩) hS (fun q h => h) (fun H1 locs1 hP1 hS1 => ?_)
    have k1 := K H1 locs1 hP1 hS1
    rw [show h.1 - n0 + (h1.1 - h.1) = h1.1 - n0 by omega, show szS h.1 - szS n0 + (szS h1.1 - szS h.1) = szS h1.1 - szS n0 by omega]
    rw [List.map_append, show r1.toList.map (cv β) = (r1.map (cv β)).toList by cases r1 <;> rfl] at k1
    exact k1
  next => cases hc
set_option maxHeartbeats 1000000 in
theorem zc_invokespecial (ix : Nat) {p : Program} {l : Launch} {e : Env} {R : Room} {s : State} {m : MethodId} {args : Array Value} {below : List Frame} {meth : Method} {c : Code} {D : va_G} {cT : CT} {β : Nat → Nat} {base : Nat} {me me' : ME} {Ts : List Cond} {n0 n : Nat} (C : Ctx p s m args meth c D cT base me Ts n0) (hβ : ∀ i, i < 4096 → β i = base + i) {pc len : Nat} {lv : LV} {st as rest : List Value} {h h1 : Hp} {r1 : Option Value} (hB : Body l D cT β base n) (hc : zCall me.1 h (.invokespecial ix) st = some (me', as, rest)) (h1run : zRun none n me' 0 (lv_args 0 as) [] h = some (r1, h1)) (hd : decode me.2.2.1 pc = .ok (.invokespecial ix, len)) (hlen : lenOK (.invokespecial ix) len = true) (hroom : rOKb me (pc, .invokespecial ix, len) = true) (hR : (me.2.2.2.2.2.2.1 ≤ R.frames ∧ me.2.2.2.2.2.2.2 ≤ R.locals) ∧ h1.1 - n0 ≤ R.cells ∧ szS h1.1 - szS n0 ≤ R.slots) (hn0 : n0 ≤ h.1) (h83 : h.1 ≤ 83) (hmono : h.1 ≤ h1.1) {H : Heap} {locs : List Loc} {ls : Array Slot} {Q : State → Prop} (hl : lv_has ls me.2.2.2.1 (cvL β lv)) (hP : va_P D vwCl (wsOf β cT h) H) (hS : va_S (fun q => base ≤ q) s.heap H locs)
    (K : ∀ (H' : Heap) (locs' : List Loc), va_P D vwCl (wsOf β cT h1) H' → va_S (fun q => base ≤ q) s.heap H' locs' → W p l e R s m args below meth c H' locs' (h1.1 - n0) (szS h1.1 - szS n0) Q (F0 m (pc + 3) ls ((r1.toList ++ rest).map (cv β)))) :
    W p l e R s m args below meth c H locs (h.1 - n0) (szS h.1 - szS n0) Q (F0 m pc ls (st.map (cv β))) := by
  obtain ⟨hx, hb, hml, hown, hts, hG, hK, hsz, hmk, hini⟩ := C
  have hlen1 : len = 3 := Nat.eq_of_beq_eq_true hlen
  subst hlen1
  refine W_size (fun hz => ?_)
  have hsize := heap_size hβ h83 hn0 hsz hP hS hz
  have hs1 := szS_mono hn0
  have hs2 := szS_mono hmono
  unfold zCall at hc
  dsimp only at hc
  split at hc
  next k b v hp =>
    obtain ⟨hm, i, hdr, has, ho, hcr, hcat⟩ := zCallR_spec hc
    subst has
    obtain ⟨me2, ⟨hm2, m1, m2, m3, wi, wc⟩, wl, wn, hn1, hn2⟩ := pool_I hp
    cases hm2.symm.trans hm
    have hmk2 : mOK me' := mt_ok me' (List.mem_of_getElem? hm)
    have hrm := room_of (show rOKb.rOK2 me ix = true from hroom) hp (by decide) hm
    have hM := met_of_body hB hmk2 h1run hcat h83
    obtain ⟨hi, hsh⟩ := isO_spec ho
    obtain ⟨Cn, T, N, hcn⟩ := cls_of_shp hsh
    obtain ⟨ty, hin, hN, hCn, hty, hnm, hf⟩ := cls_ok hcn
    have hrc := va_recv hK.1 hP hcn (by rw [wsOf_at hi, cell_obj hsh])
    replace hrc : ∃ cell : Cell, H[β i]? = some cell ∧ cell.vm.isStatics = false ∧ s.vm.findClass me'.2.1.cls = some cell.cls := by
      rw [(mOK_name hmk2).1, ← hCn]; exact hrc
    have hlt : b < st.length := by
      rcases Nat.lt_or_ge b st.length with q | q
      · exact q
      · rw [List.drop_eq_nil_of_le q] at hdr; cases hdr
    have hst : st.map (cv β) = (((st.take b).reverse).map (cv β)).reverse ++ .ref (β i) :: rest.map (cv β) := by
      rw [← List.map_reverse, List.reverse_reverse, show (Value.ref (β i) :: rest.map (cv β)) = (Value.ref i :: rest).map (cv β) from rfl, ← hdr, ← List.map_append, List.take_append_drop]
    have hAl : (((st.take b).reverse).map (cv β)).length = b := by simp; omega
    refine z_call (va_runI (As := ((st.take b).reverse).map (cv β)) (rest := rest.map (cv β)) ⟨hx, hb, hml, hown, hts⟩ hM ⟨callB_of (ws' := gTbl) b hts (wsM_good hG wc) (by unfold wsM; rw [hn2]) rfl rfl (hts _ (hG _ wi)) (hts _ (hG _ wl)) ⟨m1, m2, m3⟩ ⟨by show _ + 1 ≤ _; have := hR.1.1; have := hrm.1; simp only [rmM]; omega, by have := hR.1.2; have := hrm.2; simp only [rmM]; omega⟩, hn1, hts _ (hG _ wn)⟩ ⟨PcM_blind, fun U hU hW => ⟨rfl, by rw [hU]; exact hsize, by rw [hU]; exact hP, hK.moved hW⟩⟩ rfl hAl hl.1 hst (lv_room (by rw [cat_cv]; exact hcr)) hd ⟨by omega, by omega⟩) hS (fun q h => h) (fun H1 locs1 hP1 hS1 => ?_)
    have k1 := K H1 locs1 hP1 hS1
    rw [show h.1 - n0 + (h1.1 - h.1) = h1.1 - n0 by omega, show szS h.1 - szS n0 + (szS h1.1 - szS h.1) = szS h1.1 - szS n0 by omega]
    rw [List.map_append, show r1.toList.map (cv β) = (r1.map (cv β)).toList by cases r1 <;> rfl] at k1
    exact k1
  next k b v hp =>
    obtain ⟨hm, i, hdr, has, ho, hcr, hcat⟩ := zCallR_spec hc
    subst has
    obtain ⟨me2, ⟨hm2, m1, m2, m3, wi, wc⟩, wl, wn, hn1, hn2⟩ := pool_IN hp
    cases hm2.symm.trans hm
    have hmk2 : mOK me' := mt_ok me' (List.mem_of_getElem? hm)
    have hrm := room_of (show rOKb.rOK2 me ix = true from hroom) hp (by decide) hm
    have hM := met_of_body hB hmk2 h1run hcat h83
    obtain ⟨hi, hsh⟩ := isO_spec ho
    obtain ⟨Cn, T, N, hcn⟩ := cls_of_shp hsh
    obtain ⟨ty, hin, hN, hCn, hty, hnm, hf⟩ := cls_ok hcn
    have hrc := va_recv hK.1 hP hcn (by rw [wsOf_at hi, cell_obj hsh])
    replace hrc : ∃ cell : Cell, H[β i]? = some cell ∧ cell.vm.isStatics = false ∧ s.vm.findClass me'.2.1.cls = some cell.cls := by
      rw [(mOK_name hmk2).1, ← hCn]; exact hrc
    have hlt : b < st.length := by
      rcases Nat.lt_or_ge b st.length with q | q
      · exact q
      · rw [List.drop_eq_nil_of_le q] at hdr; cases hdr
    have hst : st.map (cv β) = (((st.take b).reverse).map (cv β)).reverse ++ .ref (β i) :: rest.map (cv β) := by
      rw [← List.map_reverse, List.reverse_reverse, show (Value.ref (β i) :: rest.map (cv β)) = (Value.ref i :: rest).map (cv β) from rfl, ← hdr, ← List.map_append, List.take_append_drop]
    have hAl : (((st.take b).reverse).map (cv β)).length = b := by simp; omega
    refine z_call (va_runIN (As := ((st.take b).reverse).map (cv β)) (rest := rest.map (cv β)) ⟨hx, hb, hml, hown, hts⟩ hM ⟨va_cnB (ws' := gTbl) b hts (wsM_good hG wc) (by unfold wsM; rw [hn2]) rfl rfl (hK.2.1 _ wl) (hts _ (hG _ wi)) ⟨m1, m2, m3⟩ ⟨by show _ + 1 ≤ _; have := hR.1.1; have := hrm.1; simp only [rmM]; omega, by have := hR.1.2; have := hrm.2; simp only [rmM]; omega⟩, hn1, hts _ (hG _ wn)⟩ ⟨PcM_blind, fun U hU hW => ⟨rfl, by rw [hU]; exact hsize, by rw [hU]; exact hP, hK.moved hW⟩⟩ rfl hAl hl.1 hst (lv_room (by rw [cat_cv]; exact hcr)) hd ⟨by omega, by omega⟩) hS (fun q h => h) (fun H1 locs1 hP1 hS1 => ?_)
    have k1 := K H1 locs1 hP1 hS1
    rw [show h.1 - n0 + (h1.1 - h.1) = h1.1 - n0 by omega, show szS h.1 - szS n0 + (szS h1.1 - szS h.1) = szS h1.1 - szS n0 by omega]
    rw [List.map_append, show r1.toList.map (cv β) = (r1.map (cv β)).toList by cases r1 <;> rfl] at k1
    exact k1
  next => cases hc
theorem zCall_W {ins : Instr} {p : Program} {l : Launch} {e : Env} {R : Room} {s : State} {m : MethodId} {args : Array Value} {below : List Frame} {meth : Method} {c : Code} {D : va_G} {cT : CT} {β : Nat → Nat} {base : Nat} {me me' : ME} {Ts : List Cond} {n0 n : Nat} (C : Ctx p s m args meth c D cT base me Ts n0) (hβ : ∀ i, i < 4096 → β i = base + i) {pc len : Nat} {lv : LV} {st as rest : List Value} {h h1 : Hp} {r1 : Option Value} (hB : Body l D cT β base n) (hc : zCall me.1 h ins st = some (me', as, rest)) (h1run : zRun none n me' 0 (lv_args 0 as) [] h = some (r1, h1)) (hd : decode me.2.2.1 pc = .ok (ins, len)) (hlen : lenOK ins len = true) (hroom : rOKb me (pc, ins, len) = true) (hR : (me.2.2.2.2.2.2.1 ≤ R.frames ∧ me.2.2.2.2.2.2.2 ≤ R.locals) ∧ h1.1 - n0 ≤ R.cells ∧ szS h1.1 - szS n0 ≤ R.slots) (hn0 : n0 ≤ h.1) (h83 : h.1 ≤ 83) (hmono : h.1 ≤ h1.1) {H : Heap} {locs : List Loc} {ls : Array Slot} {Q : State → Prop} (hl : lv_has ls me.2.2.2.1 (cvL β lv)) (hP : va_P D vwCl (wsOf β cT h) H) (hS : va_S (fun q => base ≤ q) s.heap H locs)
    (K : ∀ (H' : Heap) (locs' : List Loc), va_P D vwCl (wsOf β cT h1) H' → va_S (fun q => base ≤ q) s.heap H' locs' → W p l e R s m args below meth c H' locs' (h1.1 - n0) (szS h1.1 - szS n0) Q (F0 m (pc + 3) ls ((r1.toList ++ rest).map (cv β)))) :
    W p l e R s m args below meth c H locs (h.1 - n0) (szS h.1 - szS n0) Q (F0 m pc ls (st.map (cv β))) := by
  cases ins with
  | invokevirtual ix => exact zc_invokevirtual ix C hβ hB hc h1run hd hlen hroom hR hn0 h83 hmono hl hP hS K
  | invokestatic ix => exact zc_invokestatic ix C hβ hB hc h1run hd hlen hroom hR hn0 h83 hmono hl hP hS K
  | invokespecial ix => exact zc_invokespecial ix C hβ hB hc h1run hd hlen hroom hR hn0 h83 hmono hl hP hS K
  | _ => exact nomatch (show (none : Option (ME × List Value × List Value)) = some _ from hc)
set_option maxHeartbeats 1000000 in
/-- the machine follows zRun -/
theorem z_body (l : Launch) (D : va_G) (cT : CT) (β : Nat → Nat) (base : Nat) (hβ : ∀ i, i < 4096 → β i = base + i) : ∀ n, Body l D cT β base n := by
  intro n
  induction n with
  | zero => intro p e R s m args below meth c scr me Ts n0 Q pc lv st h r h' H locs ls hrun; cases hrun
  | succ n ih =>
    intro p e R s m args below meth c scr me Ts n0 Q pc lv st h r h' H locs ls hrun C hsc hR hn0 h83 hl hP hS hret
    unfold zRun at hrun
    split at hrun
    next => cases hrun
    next ins len hlk =>
      obtain ⟨hd, hroom, hlen⟩ := mOK_at C.2.2.2.2.2.2.2.2.1 hlk
      split at hrun
      next r0 hz =>
        cases hrun
        exact hret pc st H locs ls ins len hd hlen hz hP hS
      next hz =>
        split at hrun
        next me' as rest hc =>
          split at hrun
          next r1 h1 h1run =>
            have a := z_mono _ _ _ _ _ _ _ _ _ h1run h83
            have b := z_mono _ _ _ _ _ _ _ _ _ hrun a.2
            have s1 := szS_mono b.1
            refine zCall_W C hβ ih hc h1run hd hlen hroom ⟨hR.1, by omega, by omega⟩ hn0 h83 a.1 hl hP hS (fun H' locs' hP' hS' => ?_)
            exact ih p e R s m args below meth c scr me Ts n0 Q (pc + 3) lv (r1.toList ++ rest) h1 r h' H' locs' ls hrun C hsc hR (by omega) a.2 hl hP' hS' hret
          next => cases hrun
        next hc =>
          split at hrun
          next pc' lv' st' h2 hst =>
            have a := zStep_n hst
            have b := z_mono _ _ _ _ _ _ _ _ _ hrun (by omega)
            have s1 := szS_mono b.1
            exact zStep_W C hsc hβ hst hd hlen hroom ⟨hR.1, by omega, by omega⟩ hn0 h83 hl hP hS (fun H' locs' ls' hl' hP' hS' => ih p e R s m args below meth c scr me Ts n0 Q pc' lv' st' h2 r h' H' locs' ls' hrun C hsc hR (by omega) (by omega) hl' hP' hS' hret)
          next => cases hrun

