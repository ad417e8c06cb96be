/-! Fewer locals; rules for branches, arrays, divisions (written by wip/whole/gen14.py). -/
def uk (lv : LV) : Prop := ∀ q ∈ lv, lkp lv q.1 = some q.2
def Sub (lv2 lv : LV) : Prop := ∀ i v, lkp lv2 i = some v → lkp lv i = some v
theorem lkp_cons {α : Type} (e : Nat × α) (r : List (Nat × α)) (i : Nat) : lkp (e :: r) i = if e.1 = i then some e.2 else lkp r i := by
  show (bif Nat.beq e.1 i then some e.2 else lkp r i) = _
  by_cases h : e.1 = i
  · rw [if_pos h, h, Nat.beq_refl]; rfl
  · rw [if_neg h]
    have : Nat.beq e.1 i = false := by
      cases hb : Nat.beq e.1 i with
      | true => exact absurd (Nat.eq_of_beq_eq_true hb) h
      | false => rfl
    rw [this]; rfl
theorem lkp_of_mem {lv : LV} {i : Nat} (h : ∃ v, (i, v) ∈ lv) : ∃ v, lkp lv i = some v := by
  induction lv with
  | nil => obtain ⟨v, hv⟩ := h; cases hv
  | cons e r ih =>
    rw [lkp_cons]
    by_cases he : e.1 = i
    · exact ⟨e.2, if_pos he⟩
    · rw [if_neg he]
      obtain ⟨v, hv⟩ := h
      rcases List.mem_cons.mp hv with q | q
      · subst q; exact absurd rfl he
      · exact ih ⟨v, q⟩
theorem lkp_filter {lv : LV} (hu : uk lv) (P : Nat × Value → Bool) {i : Nat} {v : Value} : lkp (lv.filter P) i = some v ↔ lkp lv i = some v ∧ P (i, v) = true := by
  constructor
  · intro h
    have h1 := List.mem_filter.mp (lkp_mem h)
    exact ⟨hu _ h1.1, h1.2⟩
  · rintro ⟨h, hp⟩
    obtain ⟨w, hw⟩ := lkp_of_mem (lv := lv.filter P) (i := i) ⟨v, List.mem_filter.mpr ⟨lkp_mem h, hp⟩⟩
    have h1 := (List.mem_filter.mp (lkp_mem hw)).1
    have h2 := hu _ h1
    dsimp only at h2
    rw [h] at h2
    rw [hw, Option.some.inj h2]
theorem uk_put {lv : LV} (hu : uk lv) (P : Nat × Value → Bool) (i : Nat) (v : Value) (hP : ∀ w, P (i, w) = false) : uk ((i, v) :: lv.filter P) := by
  intro q hq
  rw [lkp_cons]
  rcases List.mem_cons.mp hq with rfl | hq
  · exact if_pos rfl
  · obtain ⟨q1, q2⟩ := List.mem_filter.mp hq
    have hne : ¬ i = q.1 := by
      intro e
      have := hP q.2
      rw [e] at this
      rw [show (q.1, q.2) = q from rfl] at this
      rw [this] at q2
      cases q2
    rw [if_neg hne]
    exact (lkp_filter hu P).mpr ⟨hu q q1, q2⟩
theorem sub_put {lv lv2 : LV} (hu : uk lv) (hu2 : uk lv2) (hs : Sub lv2 lv) (P : Nat × Value → Bool) (i : Nat) (v : Value) : Sub ((i, v) :: lv2.filter P) ((i, v) :: lv.filter P) := by
  intro j w h
  rw [lkp_cons] at h ⊢
  by_cases hij : i = j
  · rw [if_pos hij] at h ⊢; exact h
  · rw [if_neg hij] at h ⊢
    obtain ⟨h1, h2⟩ := (lkp_filter hu2 P).mp h
    exact (lkp_filter hu P).mpr ⟨hs _ _ h1, h2⟩
theorem sub_ldI {lv lv2 : LV} (hs : Sub lv2 lv) {i : Nat} {x : Int32} (h : ldI lv2 i = some x) : ldI lv i = some x := by
  unfold ldI at h ⊢
  split at h
  next y hy => cases h; rw [hs _ _ hy]
  next => cases h
theorem sub_ldL {lv lv2 : LV} (hs : Sub lv2 lv) {i : Nat} {x : Int64} (h : ldL lv2 i = some x) : ldL lv i = some x := by
  unfold ldL at h ⊢
  split at h
  next y hy => cases h; rw [hs _ _ hy]
  next => cases h
theorem sub_ldA {lv lv2 : LV} (hs : Sub lv2 lv) {i : Nat} {x : Nat} (h : ldA lv2 i = some x) : ldA lv i = some x := by
  unfold ldA at h ⊢
  split at h
  next y hy => cases h; rw [hs _ _ hy]
  next => cases h
theorem zb_iconst (i : Int) {scr : Option (Nat × (Nat → Int32))} {own nL pc len : Nat} {ini : Bool} {lv lv2 l2 : LV} {st st' : List Value} {h h2 : Hp} {pc' : Nat} (hs : zStep scr own nL pc ini (.iconst i) len lv2 st h = some (pc', l2, st', h2)) (hu : uk lv) (hu2 : uk lv2) (hsub : Sub lv2 lv) : ∃ l1, zStep scr own nL pc ini (.iconst i) len lv st h = some (pc', l1, st', h2) ∧ uk l1 ∧ uk l2 ∧ Sub l2 l1 := by
  replace hs : (some (pc + 1, lv2, .int (Int32.ofInt i) :: st, h)) = some (pc', l2, st', h2) := hs
  have key : ∀ x : Cfg, (some (pc + 1, lv2, .int (Int32.ofInt i) :: st, h)) = some x → x.2.1 = lv2 ∧ (some (pc + 1, lv, .int (Int32.ofInt i) :: st, h)) = some (x.1, lv, x.2.2.1, x.2.2.2) := by
    clear hs hu hu2 hsub
    intro x hx
    cases hx; exact ⟨rfl, rfl⟩
  obtain ⟨e1, e2⟩ := key _ (show (some (pc + 1, lv2, .int (Int32.ofInt i) :: st, h)) = some (pc', l2, st', h2) by first | exact hs | simpa only [Bool.cond_eq_ite] using hs)
  replace e1 : l2 = lv2 := e1
  subst e1
  exact ⟨lv, e2, hu, hu2, hsub⟩
theorem zb_bipush (i : Int) {scr : Option (Nat × (Nat → Int32))} {own nL pc len : Nat} {ini : Bool} {lv lv2 l2 : LV} {st st' : List Value} {h h2 : Hp} {pc' : Nat} (hs : zStep scr own nL pc ini (.bipush i) len lv2 st h = some (pc', l2, st', h2)) (hu : uk lv) (hu2 : uk lv2) (hsub : Sub lv2 lv) : ∃ l1, zStep scr own nL pc ini (.bipush i) len lv st h = some (pc', l1, st', h2) ∧ uk l1 ∧ uk l2 ∧ Sub l2 l1 := by
  replace hs : (some (pc + 2, lv2, .int (Int8.ofInt i).toInt32 :: st, h)) = some (pc', l2, st', h2) := hs
  have key : ∀ x : Cfg, (some (pc + 2, lv2, .int (Int8.ofInt i).toInt32 :: st, h)) = some x → x.2.1 = lv2 ∧ (some (pc + 2, lv, .int (Int8.ofInt i).toInt32 :: st, h)) = some (x.1, lv, x.2.2.1, x.2.2.2) := by
    clear hs hu hu2 hsub
    intro x hx
    cases hx; exact ⟨rfl, rfl⟩
  obtain ⟨e1, e2⟩ := key _ (show (some (pc + 2, lv2, .int (Int8.ofInt i).toInt32 :: st, h)) = some (pc', l2, st', h2) by first | exact hs | simpa only [Bool.cond_eq_ite] using hs)
  replace e1 : l2 = lv2 := e1
  subst e1
  exact ⟨lv, e2, hu, hu2, hsub⟩
theorem zb_sipush (i : Int) {scr : Option (Nat × (Nat → Int32))} {own nL pc len : Nat} {ini : Bool} {lv lv2 l2 : LV} {st st' : List Value} {h h2 : Hp} {pc' : Nat} (hs : zStep scr own nL pc ini (.sipush i) len lv2 st h = some (pc', l2, st', h2)) (hu : uk lv) (hu2 : uk lv2) (hsub : Sub lv2 lv) : ∃ l1, zStep scr own nL pc ini (.sipush i) len lv st h = some (pc', l1, st', h2) ∧ uk l1 ∧ uk l2 ∧ Sub l2 l1 := by
  replace hs : (some (pc + 3, lv2, .int (Int16.ofInt i).toInt32 :: st, h)) = some (pc', l2, st', h2) := hs
  have key : ∀ x : Cfg, (some (pc + 3, lv2, .int (Int16.ofInt i).toInt32 :: st, h)) = some x → x.2.1 = lv2 ∧ (some (pc + 3, lv, .int (Int16.ofInt i).toInt32 :: st, h)) = some (x.1, lv, x.2.2.1, x.2.2.2) := by
    clear hs hu hu2 hsub
    intro x hx
    cases hx; exact ⟨rfl, rfl⟩
  obtain ⟨e1, e2⟩ := key _ (show (some (pc + 3, lv2, .int (Int16.ofInt i).toInt32 :: st, h)) = some (pc', l2, st', h2) by first | exact hs | simpa only [Bool.cond_eq_ite] using hs)
  replace e1 : l2 = lv2 := e1
  subst e1
  exact ⟨lv, e2, hu, hu2, hsub⟩
theorem zb_lconst (i : Fin 2) {scr : Option (Nat × (Nat → Int32))} {own nL pc len : Nat} {ini : Bool} {lv lv2 l2 : LV} {st st' : List Value} {h h2 : Hp} {pc' : Nat} (hs : zStep scr own nL pc ini (.lconst i) len lv2 st h = some (pc', l2, st', h2)) (hu : uk lv) (hu2 : uk lv2) (hsub : Sub lv2 lv) : ∃ l1, zStep scr own nL pc ini (.lconst i) len lv st h = some (pc', l1, st', h2) ∧ uk l1 ∧ uk l2 ∧ Sub l2 l1 := by
  replace hs : (some (pc + 1, lv2, .long (Int64.ofNat (i : Nat)) :: st, h)) = some (pc', l2, st', h2) := hs
  have key : ∀ x : Cfg, (some (pc + 1, lv2, .long (Int64.ofNat (i : Nat)) :: st, h)) = some x → x.2.1 = lv2 ∧ (some (pc + 1, lv, .long (Int64.ofNat (i : Nat)) :: st, h)) = some (x.1, lv, x.2.2.1, x.2.2.2) := by
    clear hs hu hu2 hsub
    intro x hx
    cases hx; exact ⟨rfl, rfl⟩
  obtain ⟨e1, e2⟩ := key _ (show (some (pc + 1, lv2, .long (Int64.ofNat (i : Nat)) :: st, h)) = some (pc', l2, st', h2) by first | exact hs | simpa only [Bool.cond_eq_ite] using hs)
  replace e1 : l2 = lv2 := e1
  subst e1
  exact ⟨lv, e2, hu, hu2, hsub⟩
theorem zb_ldc (ix : Nat) {scr : Option (Nat × (Nat → Int32))} {own nL pc len : Nat} {ini : Bool} {lv lv2 l2 : LV} {st st' : List Value} {h h2 : Hp} {pc' : Nat} (hs : zStep scr own nL pc ini (.ldc ix) len lv2 st h = some (pc', l2, st', h2)) (hu : uk lv) (hu2 : uk lv2) (hsub : Sub lv2 lv) : ∃ l1, zStep scr own nL pc ini (.ldc ix) len lv st h = some (pc', l1, st', h2) ∧ uk l1 ∧ uk l2 ∧ Sub l2 l1 := by
  replace hs : ((match (generalizing := false) lkp (poolOf own) ix with
    | some (9, _, _, v) => some (pc + 2, lv2, .int (Int32.ofInt v) :: st, h)
    | _ => none)) = some (pc', l2, st', h2) := hs
  have key : ∀ x : Cfg, ((match (generalizing := false) lkp (poolOf own) ix with
    | some (9, _, _, v) => some (pc + 2, lv2, .int (Int32.ofInt v) :: st, h)
    | _ => none)) = some x → x.2.1 = lv2 ∧ ((match (generalizing := false) lkp (poolOf own) ix with
    | some (9, _, _, v) => some (pc + 2, lv, .int (Int32.ofInt v) :: st, h)
    | _ => none)) = some (x.1, lv, x.2.2.1, x.2.2.2) := by
    clear hs hu hu2 hsub
    intro x hx
    repeat' split at hx
    all_goals first | (cases hx; done) | (cases hx; exact ⟨rfl, rfl⟩) | (cases hx; refine ⟨rfl, ?_⟩; simp_all; done) | (cases hx; refine ⟨rfl, ?_⟩; simp_all; (intro hh; first | omega | exact absurd hh (Int32.not_lt.mpr (by assumption))))
  obtain ⟨e1, e2⟩ := key _ (show ((match (generalizing := false) lkp (poolOf own) ix with
    | some (9, _, _, v) => some (pc + 2, lv2, .int (Int32.ofInt v) :: st, h)
    | _ => none)) = some (pc', l2, st', h2) by first | exact hs | simpa only [Bool.cond_eq_ite] using hs)
  replace e1 : l2 = lv2 := e1
  subst e1
  exact ⟨lv, e2, hu, hu2, hsub⟩
theorem zb_ldc_w (ix : Nat) {scr : Option (Nat × (Nat → Int32))} {own nL pc len : Nat} {ini : Bool} {lv lv2 l2 : LV} {st st' : List Value} {h h2 : Hp} {pc' : Nat} (hs : zStep scr own nL pc ini (.ldc_w ix) len lv2 st h = some (pc', l2, st', h2)) (hu : uk lv) (hu2 : uk lv2) (hsub : Sub lv2 lv) : ∃ l1, zStep scr own nL pc ini (.ldc_w ix) len lv st h = some (pc', l1, st', h2) ∧ uk l1 ∧ uk l2 ∧ Sub l2 l1 := by
  replace hs : ((match (generalizing := false) lkp (poolOf own) ix with
    | some (9, _, _, v) => some (pc + 3, lv2, .int (Int32.ofInt v) :: st, h)
    | _ => none)) = some (pc', l2, st', h2) := hs
  have key : ∀ x : Cfg, ((match (generalizing := false) lkp (poolOf own) ix with
    | some (9, _, _, v) => some (pc + 3, lv2, .int (Int32.ofInt v) :: st, h)
    | _ => none)) = some x → x.2.1 = lv2 ∧ ((match (generalizing := false) lkp (poolOf own) ix with
    | some (9, _, _, v) => some (pc + 3, lv, .int (Int32.ofInt v) :: st, h)
    | _ => none)) = some (x.1, lv, x.2.2.1, x.2.2.2) := by
    clear hs hu hu2 hsub
    intro x hx
    repeat' split at hx
    all_goals first | (cases hx; done) | (cases hx; exact ⟨rfl, rfl⟩) | (cases hx; refine ⟨rfl, ?_⟩; simp_all; done) | (cases hx; refine ⟨rfl, ?_⟩; simp_all; (intro hh; first | omega | exact absurd hh (Int32.not_lt.mpr (by assumption))))
  obtain ⟨e1, e2⟩ := key _ (show ((match (generalizing := false) lkp (poolOf own) ix with
    | some (9, _, _, v) => some (pc + 3, lv2, .int (Int32.ofInt v) :: st, h)
    | _ => none)) = some (pc', l2, st', h2) by first | exact hs | simpa only [Bool.cond_eq_ite] using hs)
  replace e1 : l2 = lv2 := e1
  subst e1
  exact ⟨lv, e2, hu, hu2, hsub⟩
theorem zb_ldc2_w (ix : Nat) {scr : Option (Nat × (Nat → Int32))} {own nL pc len : Nat} {ini : Bool} {lv lv2 l2 : LV} {st st' : List Value} {h h2 : Hp} {pc' : Nat} (hs : zStep scr own nL pc ini (.ldc2_w ix) len lv2 st h = some (pc', l2, st', h2)) (hu : uk lv) (hu2 : uk lv2) (hsub : Sub lv2 lv) : ∃ l1, zStep scr own nL pc ini (.ldc2_w ix) len lv st h = some (pc', l1, st', h2) ∧ uk l1 ∧ uk l2 ∧ Sub l2 l1 := by
  replace hs : ((match (generalizing := false) lkp (poolOf own) ix with
    | some (10, _, _, v) => some (pc + 3, lv2, .long (Int64.ofInt v) :: st, h)
    | _ => none)) = some (pc', l2, st', h2) := hs
  have key : ∀ x : Cfg, ((match (generalizing := false) lkp (poolOf own) ix with
    | some (10, _, _, v) => some (pc + 3, lv2, .long (Int64.ofInt v) :: st, h)
    | _ => none)) = some x → x.2.1 = lv2 ∧ ((match (generalizing := false) lkp (poolOf own) ix with
    | some (10, _, _, v) => some (pc + 3, lv, .long (Int64.ofInt v) :: st, h)
    | _ => none)) = some (x.1, lv, x.2.2.1, x.2.2.2) := by
    clear hs hu hu2 hsub
    intro x hx
    repeat' split at hx
    all_goals first | (cases hx; done) | (cases hx; exact ⟨rfl, rfl⟩) | (cases hx; refine ⟨rfl, ?_⟩; simp_all; done) | (cases hx; refine ⟨rfl, ?_⟩; simp_all; (intro hh; first | omega | exact absurd hh (Int32.not_lt.mpr (by assumption))))
  obtain ⟨e1, e2⟩ := key _ (show ((match (generalizing := false) lkp (poolOf own) ix with
    | some (10, _, _, v) => some (pc + 3, lv2, .long (Int64.ofInt v) :: st, h)
    | _ => none)) = some (pc', l2, st', h2) by first | exact hs | simpa only [Bool.cond_eq_ite] using hs)
  replace e1 : l2 = lv2 := e1
  subst e1
  exact ⟨lv, e2, hu, hu2, hsub⟩
theorem zb_iload_n (i : Fin 4) {scr : Option (Nat × (Nat → Int32))} {own nL pc len : Nat} {ini : Bool} {lv lv2 l2 : LV} {st st' : List Value} {h h2 : Hp} {pc' : Nat} (hs : zStep scr own nL pc ini (.iload_n i) len lv2 st h = some (pc', l2, st', h2)) (hu : uk lv) (hu2 : uk lv2) (hsub : Sub lv2 lv) : ∃ l1, zStep scr own nL pc ini (.iload_n i) len lv st h = some (pc', l1, st', h2) ∧ uk l1 ∧ uk l2 ∧ Sub l2 l1 := by
  replace hs : ((match (generalizing := false) ldI lv2 i with
    | some x => some (pc + 1, lv2, .int x :: st, h)
    | none => none)) = some (pc', l2, st', h2) := hs
  split at hs
  next x hv =>
    cases hs
    refine ⟨lv, ?_, hu, hu2, hsub⟩
    show (((match (generalizing := false) ldI lv i with
    | some x => some (pc + 1, lv, .int x :: st, h)
    | none => none)) : Option Cfg) = _
    rw [sub_ldI hsub hv]
  next => cases hs
theorem zb_iload (i : Nat) {scr : Option (Nat × (Nat → Int32))} {own nL pc len : Nat} {ini : Bool} {lv lv2 l2 : LV} {st st' : List Value} {h h2 : Hp} {pc' : Nat} (hs : zStep scr own nL pc ini (.iload i) len lv2 st h = some (pc', l2, st', h2)) (hu : uk lv) (hu2 : uk lv2) (hsub : Sub lv2 lv) : ∃ l1, zStep scr own nL pc ini (.iload i) len lv st h = some (pc', l1, st', h2) ∧ uk l1 ∧ uk l2 ∧ Sub l2 l1 := by
  replace hs : ((match (generalizing := false) ldI lv2 i with
    | some x => some (pc + 2, lv2, .int x :: st, h)
    | none => none)) = some (pc', l2, st', h2) := hs
  split at hs
  next x hv =>
    cases hs
    refine ⟨lv, ?_, hu, hu2, hsub⟩
    show (((match (generalizing := false) ldI lv i with
    | some x => some (pc + 2, lv, .int x :: st, h)
    | none => none)) : Option Cfg) = _
    rw [sub_ldI hsub hv]
  next => cases hs
theorem zb_lload_n (i : Fin 4) {scr : Option (Nat × (Nat → Int32))} {own nL pc len : Nat} {ini : Bool} {lv lv2 l2 : LV} {st st' : List Value} {h h2 : Hp} {pc' : Nat} (hs : zStep scr own nL pc ini (.lload_n i) len lv2 st h = some (pc', l2, st', h2)) (hu : uk lv) (hu2 : uk lv2) (hsub : Sub lv2 lv) : ∃ l1, zStep scr own nL pc ini (.lload_n i) len lv st h = some (pc', l1, st', h2) ∧ uk l1 ∧ uk l2 ∧ Sub l2 l1 := by
  replace hs : ((match (generalizing := false) ldL lv2 i with
    | some x => some (pc + 1, lv2, .long x :: st, h)
    | none => none)) = some (pc', l2, st', h2) := hs
  split at hs
  next x hv =>
    cases hs
    refine ⟨lv, ?_, hu, hu2, hsub⟩
    show (((match (generalizing := false) ldL lv i with
    | some x => some (pc + 1, lv, .long x :: st, h)
    | none => none)) : Option Cfg) = _
    rw [sub_ldL hsub hv]
  next => cases hs
theorem zb_lload (i : Nat) {scr : Option (Nat × (Nat → Int32))} {own nL pc len : Nat} {ini : Bool} {lv lv2 l2 : LV} {st st' : List Value} {h h2 : Hp} {pc' : Nat} (hs : zStep scr own nL pc ini (.lload i) len lv2 st h = some (pc', l2, st', h2)) (hu : uk lv) (hu2 : uk lv2) (hsub : Sub lv2 lv) : ∃ l1, zStep scr own nL pc ini (.lload i) len lv st h = some (pc', l1, st', h2) ∧ uk l1 ∧ uk l2 ∧ Sub l2 l1 := by
  replace hs : ((match (generalizing := false) ldL lv2 i with
    | some x => some (pc + 2, lv2, .long x :: st, h)
    | none => none)) = some (pc', l2, st', h2) := hs
  split at hs
  next x hv =>
    cases hs
    refine ⟨lv, ?_, hu, hu2, hsub⟩
    show (((match (generalizing := false) ldL lv i with
    | some x => some (pc + 2, lv, .long x :: st, h)
    | none => none)) : Option Cfg) = _
    rw [sub_ldL hsub hv]
  next => cases hs
theorem zb_aload_n (i : Fin 4) {scr : Option (Nat × (Nat → Int32))} {own nL pc len : Nat} {ini : Bool} {lv lv2 l2 : LV} {st st' : List Value} {h h2 : Hp} {pc' : Nat} (hs : zStep scr own nL pc ini (.aload_n i) len lv2 st h = some (pc', l2, st', h2)) (hu : uk lv) (hu2 : uk lv2) (hsub : Sub lv2 lv) : ∃ l1, zStep scr own nL pc ini (.aload_n i) len lv st h = some (pc', l1, st', h2) ∧ uk l1 ∧ uk l2 ∧ Sub l2 l1 := by
  replace hs : ((match (generalizing := false) ldA lv2 i with
    | some x => some (pc + 1, lv2, .ref x :: st, h)
    | none => none)) = some (pc', l2, st', h2) := hs
  split at hs
  next x hv =>
    cases hs
    refine ⟨lv, ?_, hu, hu2, hsub⟩
    show (((match (generalizing := false) ldA lv i with
    | some x => some (pc + 1, lv, .ref x :: st, h)
    | none => none)) : Option Cfg) = _
    rw [sub_ldA hsub hv]
  next => cases hs
theorem zb_aload (i : Nat) {scr : Option (Nat × (Nat → Int32))} {own nL pc len : Nat} {ini : Bool} {lv lv2 l2 : LV} {st st' : List Value} {h h2 : Hp} {pc' : Nat} (hs : zStep scr own nL pc ini (.aload i) len lv2 st h = some (pc', l2, st', h2)) (hu : uk lv) (hu2 : uk lv2) (hsub : Sub lv2 lv) : ∃ l1, zStep scr own nL pc ini (.aload i) len lv st h = some (pc', l1, st', h2) ∧ uk l1 ∧ uk l2 ∧ Sub l2 l1 := by
  replace hs : ((match (generalizing := false) ldA lv2 i with
    | some x => some (pc + 2, lv2, .ref x :: st, h)
    | none => none)) = some (pc', l2, st', h2) := hs
  split at hs
  next x hv =>
    cases hs
    refine ⟨lv, ?_, hu, hu2, hsub⟩
    show (((match (generalizing := false) ldA lv i with
    | some x => some (pc + 2, lv, .ref x :: st, h)
    | none => none)) : Option Cfg) = _
    rw [sub_ldA hsub hv]
  next => cases hs
theorem zb_istore_n (i : Fin 4) {scr : Option (Nat × (Nat → Int32))} {own nL pc len : Nat} {ini : Bool} {lv lv2 l2 : LV} {st st' : List Value} {h h2 : Hp} {pc' : Nat} (hs : zStep scr own nL pc ini (.istore_n i) len lv2 st h = some (pc', l2, st', h2)) (hu : uk lv) (hu2 : uk lv2) (hsub : Sub lv2 lv) : ∃ l1, zStep scr own nL pc ini (.istore_n i) len lv st h = some (pc', l1, st', h2) ∧ uk l1 ∧ uk l2 ∧ Sub l2 l1 := by
  replace hs : ((match (generalizing := false) st with
    | .int x :: r => bif Nat.blt i nL then some (pc + 1, lvPut lv2 i (.int x), r, h) else none
    | _ => none)) = some (pc', l2, st', h2) := hs
  split at hs
  next x r =>
    cases hb1 : Nat.blt (i : Nat) nL with
    | false => rw [hb1] at hs; cases hs
    | true =>
      rw [hb1] at hs
      cases hs
      refine ⟨lvPut lv (i : Nat) (.int x), ?_, uk_put hu _ _ _ (fun w => by simp), uk_put hu2 _ _ _ (fun w => by simp), sub_put hu hu2 hsub _ _ _⟩
      show (bif Nat.blt (i : Nat) nL then _ else none) = _
      rw [hb1]
      rfl
  next => cases hs
theorem zb_istore (i : Nat) {scr : Option (Nat × (Nat → Int32))} {own nL pc len : Nat} {ini : Bool} {lv lv2 l2 : LV} {st st' : List Value} {h h2 : Hp} {pc' : Nat} (hs : zStep scr own nL pc ini (.istore i) len lv2 st h = some (pc', l2, st', h2)) (hu : uk lv) (hu2 : uk lv2) (hsub : Sub lv2 lv) : ∃ l1, zStep scr own nL pc ini (.istore i) len lv st h = some (pc', l1, st', h2) ∧ uk l1 ∧ uk l2 ∧ Sub l2 l1 := by
  replace hs : ((match (generalizing := false) st with
    | .int x :: r => bif Nat.blt i nL then some (pc + 2, lvPut lv2 i (.int x), r, h) else none
    | _ => none)) = some (pc', l2, st', h2) := hs
  split at hs
  next x r =>
    cases hb1 : Nat.blt i nL with
    | false => rw [hb1] at hs; cases hs
    | true =>
      rw [hb1] at hs
      cases hs
      refine ⟨lvPut lv i (.int x), ?_, uk_put hu _ _ _ (fun w => by simp), uk_put hu2 _ _ _ (fun w => by simp), sub_put hu hu2 hsub _ _ _⟩
      show (bif Nat.blt i nL then _ else none) = _
      rw [hb1]
      rfl
  next => cases hs
theorem zb_lstore_n (i : Fin 4) {scr : Option (Nat × (Nat → Int32))} {own nL pc len : Nat} {ini : Bool} {lv lv2 l2 : LV} {st st' : List Value} {h h2 : Hp} {pc' : Nat} (hs : zStep scr own nL pc ini (.lstore_n i) len lv2 st h = some (pc', l2, st', h2)) (hu : uk lv) (hu2 : uk lv2) (hsub : Sub lv2 lv) : ∃ l1, zStep scr own nL pc ini (.lstore_n i) len lv st h = some (pc', l1, st', h2) ∧ uk l1 ∧ uk l2 ∧ Sub l2 l1 := by
  replace hs : ((match (generalizing := false) st with
    | .long x :: r => bif Nat.blt (i + 1) nL then some (pc + 1, lvPut2 lv2 i (.long x), r, h) else none
    | _ => none)) = some (pc', l2, st', h2) := hs
  split at hs
  next x r =>
    cases hb1 : Nat.blt ((i : Nat) + 1) nL with
    | false => rw [hb1] at hs; cases hs
    | true =>
      rw [hb1] at hs
      cases hs
      refine ⟨lvPut2 lv (i : Nat) (.long x), ?_, uk_put hu _ _ _ (fun w => by simp), uk_put hu2 _ _ _ (fun w => by simp), sub_put hu hu2 hsub _ _ _⟩
      show (bif Nat.blt ((i : Nat) + 1) nL then _ else none) = _
      rw [hb1]
      rfl
  next => cases hs
theorem zb_lstore (i : Nat) {scr : Option (Nat × (Nat → Int32))} {own nL pc len : Nat} {ini : Bool} {lv lv2 l2 : LV} {st st' : List Value} {h h2 : Hp} {pc' : Nat} (hs : zStep scr own nL pc ini (.lstore i) len lv2 st h = some (pc', l2, st', h2)) (hu : uk lv) (hu2 : uk lv2) (hsub : Sub lv2 lv) : ∃ l1, zStep scr own nL pc ini (.lstore i) len lv st h = some (pc', l1, st', h2) ∧ uk l1 ∧ uk l2 ∧ Sub l2 l1 := by
  replace hs : ((match (generalizing := false) st with
    | .long x :: r => bif Nat.blt (i + 1) nL then some (pc + 2, lvPut2 lv2 i (.long x), r, h) else none
    | _ => none)) = some (pc', l2, st', h2) := hs
  split at hs
  next x r =>
    cases hb1 : Nat.blt (i + 1) nL with
    | false => rw [hb1] at hs; cases hs
    | true =>
      rw [hb1] at hs
      cases hs
      refine ⟨lvPut2 lv i (.long x), ?_, uk_put hu _ _ _ (fun w => by simp), uk_put hu2 _ _ _ (fun w => by simp), sub_put hu hu2 hsub _ _ _⟩
      show (bif Nat.blt (i + 1) nL then _ else none) = _
      rw [hb1]
      rfl
  next => cases hs
theorem zb_astore_n (i : Fin 4) {scr : Option (Nat × (Nat → Int32))} {own nL pc len : Nat} {ini : Bool} {lv lv2 l2 : LV} {st st' : List Value} {h h2 : Hp} {pc' : Nat} (hs : zStep scr own nL pc ini (.astore_n i) len lv2 st h = some (pc', l2, st', h2)) (hu : uk lv) (hu2 : uk lv2) (hsub : Sub lv2 lv) : ∃ l1, zStep scr own nL pc ini (.astore_n i) len lv st h = some (pc', l1, st', h2) ∧ uk l1 ∧ uk l2 ∧ Sub l2 l1 := by
  replace hs : ((match (generalizing := false) st with
    | .ref x :: r => bif Nat.blt i nL then some (pc + 1, lvPut lv2 i (.ref x), r, h) else none
    | _ => none)) = some (pc', l2, st', h2) := hs
  split at hs
  next x r =>
    cases hb1 : Nat.blt (i : Nat) nL with
    | false => rw [hb1] at hs; cases hs
    | true =>
      rw [hb1] at hs
      cases hs
      refine ⟨lvPut lv (i : Nat) (.ref x), ?_, uk_put hu _ _ _ (fun w => by simp), uk_put hu2 _ _ _ (fun w => by simp), sub_put hu hu2 hsub _ _ _⟩
      show (bif Nat.blt (i : Nat) nL then _ else none) = _
      rw [hb1]
      rfl
  next => cases hs
theorem zb_astore (i : Nat) {scr : Option (Nat × (Nat → Int32))} {own nL pc len : Nat} {ini : Bool} {lv lv2 l2 : LV} {st st' : List Value} {h h2 : Hp} {pc' : Nat} (hs : zStep scr own nL pc ini (.astore i) len lv2 st h = some (pc', l2, st', h2)) (hu : uk lv) (hu2 : uk lv2) (hsub : Sub lv2 lv) : ∃ l1, zStep scr own nL pc ini (.astore i) len lv st h = some (pc', l1, st', h2) ∧ uk l1 ∧ uk l2 ∧ Sub l2 l1 := by
  replace hs : ((match (generalizing := false) st with
    | .ref x :: r => bif Nat.blt i nL then some (pc + 2, lvPut lv2 i (.ref x), r, h) else none
    | _ => none)) = some (pc', l2, st', h2) := hs
  split at hs
  next x r =>
    cases hb1 : Nat.blt i nL with
    | false => rw [hb1] at hs; cases hs
    | true =>
      rw [hb1] at hs
      cases hs
      refine ⟨lvPut lv i (.ref x), ?_, uk_put hu _ _ _ (fun w => by simp), uk_put hu2 _ _ _ (fun w => by simp), sub_put hu hu2 hsub _ _ _⟩
      show (bif Nat.blt i nL then _ else none) = _
      rw [hb1]
      rfl
  next => cases hs
theorem zb_iinc (i : Nat) (n : Int) {scr : Option (Nat × (Nat → Int32))} {own nL pc len : Nat} {ini : Bool} {lv lv2 l2 : LV} {st st' : List Value} {h h2 : Hp} {pc' : Nat} (hs : zStep scr own nL pc ini (.iinc i n) len lv2 st h = some (pc', l2, st', h2)) (hu : uk lv) (hu2 : uk lv2) (hsub : Sub lv2 lv) : ∃ l1, zStep scr own nL pc ini (.iinc i n) len lv st h = some (pc', l1, st', h2) ∧ uk l1 ∧ uk l2 ∧ Sub l2 l1 := by
  replace hs : ((match (generalizing := false) ldI lv2 i with
    | some x => bif Nat.blt i nL then some (pc + 3, lvPut lv2 i (.int (x + Int32.ofInt n)), st, h) else none
    | none => none)) = some (pc', l2, st', h2) := hs
  split at hs
  next x hv =>
    cases hb1 : Nat.blt i nL with
    | false => rw [hb1] at hs; cases hs
    | true =>
      rw [hb1] at hs
      cases hs
      refine ⟨lvPut lv i (.int (x + Int32.ofInt n)), ?_, uk_put hu _ _ _ (fun w => by simp), uk_put hu2 _ _ _ (fun w => by simp), sub_put hu hu2 hsub _ _ _⟩
      show (((match (generalizing := false) ldI lv i with
    | some x => bif Nat.blt i nL then some (pc + 3, lvPut lv i (.int (x + Int32.ofInt n)), st, h) else none
    | none => none)) : Option Cfg) = _
      rw [sub_ldI hsub hv]
      dsimp only
      rw [hb1]
      rfl
  next => cases hs
theorem zb_dup  {scr : Option (Nat × (Nat → Int32))} {own nL pc len : Nat} {ini : Bool} {lv lv2 l2 : LV} {st st' : List Value} {h h2 : Hp} {pc' : Nat} (hs : zStep scr own nL pc ini (.dup) len lv2 st h = some (pc', l2, st', h2)) (hu : uk lv) (hu2 : uk lv2) (hsub : Sub lv2 lv) : ∃ l1, zStep scr own nL pc ini (.dup) len lv st h = some (pc', l1, st', h2) ∧ uk l1 ∧ uk l2 ∧ Sub l2 l1 := by
  replace hs : ((match (generalizing := false) st with
    | v :: r => bif Nat.beq v.category 1 then some (pc + 1, lv2, v :: v :: r, h) else none
    | _ => none)) = some (pc', l2, st', h2) := hs
  simp only [Bool.cond_eq_ite] at hs
  have key : ∀ x : Cfg, ((match (generalizing := false) st with
    | v :: r => bif Nat.beq v.category 1 then some (pc + 1, lv2, v :: v :: r, h) else none
    | _ => none)) = some x → x.2.1 = lv2 ∧ ((match (generalizing := false) st with
    | v :: r => bif Nat.beq v.category 1 then some (pc + 1, lv, v :: v :: r, h) else none
    | _ => none)) = some (x.1, lv, x.2.2.1, x.2.2.2) := by
    clear hs hu hu2 hsub
    intro x hx
    simp only [Bool.cond_eq_ite] at hx ⊢
    repeat' split at hx
    all_goals first | (cases hx; done) | (cases hx; exact ⟨rfl, rfl⟩) | (cases hx; refine ⟨rfl, ?_⟩; simp_all; done) | (cases hx; refine ⟨rfl, ?_⟩; simp_all; (intro hh; first | omega | exact absurd hh (Int32.not_lt.mpr (by assumption))))
  simp only [← Bool.cond_eq_ite] at hs
  obtain ⟨e1, e2⟩ := key _ (show ((match (generalizing := false) st with
    | v :: r => bif Nat.beq v.category 1 then some (pc + 1, lv2, v :: v :: r, h) else none
    | _ => none)) = some (pc', l2, st', h2) by first | exact hs | simpa only [Bool.cond_eq_ite] using hs)
  replace e1 : l2 = lv2 := e1
  subst e1
  exact ⟨lv, e2, hu, hu2, hsub⟩
theorem zb_dup2  {scr : Option (Nat × (Nat → Int32))} {own nL pc len : Nat} {ini : Bool} {lv lv2 l2 : LV} {st st' : List Value} {h h2 : Hp} {pc' : Nat} (hs : zStep scr own nL pc ini (.dup2) len lv2 st h = some (pc', l2, st', h2)) (hu : uk lv) (hu2 : uk lv2) (hsub : Sub lv2 lv) : ∃ l1, zStep scr own nL pc ini (.dup2) len lv st h = some (pc', l1, st', h2) ∧ uk l1 ∧ uk l2 ∧ Sub l2 l1 := by
  replace hs : ((match (generalizing := false) st with
    | v :: w :: r => bif Nat.beq v.category 1 && Nat.beq w.category 1 then some (pc + 1, lv2, v :: w :: v :: w :: r, h) else none
    | _ => none)) = some (pc', l2, st', h2) := hs
  simp only [Bool.cond_eq_ite] at hs
  have key : ∀ x : Cfg, ((match (generalizing := false) st with
    | v :: w :: r => bif Nat.beq v.category 1 && Nat.beq w.category 1 then some (pc + 1, lv2, v :: w :: v :: w :: r, h) else none
    | _ => none)) = some x → x.2.1 = lv2 ∧ ((match (generalizing := false) st with
    | v :: w :: r => bif Nat.beq v.category 1 && Nat.beq w.category 1 then some (pc + 1, lv, v :: w :: v :: w :: r, h) else none
    | _ => none)) = some (x.1, lv, x.2.2.1, x.2.2.2) := by
    clear hs hu hu2 hsub
    intro x hx
    simp only [Bool.cond_eq_ite] at hx ⊢
    repeat' split at hx
    all_goals first | (cases hx; done) | (cases hx; exact ⟨rfl, rfl⟩) | (cases hx; refine ⟨rfl, ?_⟩; simp_all; done) | (cases hx; refine ⟨rfl, ?_⟩; simp_all; (intro hh; first | omega | exact absurd hh (Int32.not_lt.mpr (by assumption))))
  simp only [← Bool.cond_eq_ite] at hs
  obtain ⟨e1, e2⟩ := key _ (show ((match (generalizing := false) st with
    | v :: w :: r => bif Nat.beq v.category 1 && Nat.beq w.category 1 then some (pc + 1, lv2, v :: w :: v :: w :: r, h) else none
    | _ => none)) = some (pc', l2, st', h2) by first | exact hs | simpa only [Bool.cond_eq_ite] using hs)
  replace e1 : l2 = lv2 := e1
  subst e1
  exact ⟨lv, e2, hu, hu2, hsub⟩
theorem zb_pop  {scr : Option (Nat × (Nat → Int32))} {own nL pc len : Nat} {ini : Bool} {lv lv2 l2 : LV} {st st' : List Value} {h h2 : Hp} {pc' : Nat} (hs : zStep scr own nL pc ini (.pop) len lv2 st h = some (pc', l2, st', h2)) (hu : uk lv) (hu2 : uk lv2) (hsub : Sub lv2 lv) : ∃ l1, zStep scr own nL pc ini (.pop) len lv st h = some (pc', l1, st', h2) ∧ uk l1 ∧ uk l2 ∧ Sub l2 l1 := by
  replace hs : ((match (generalizing := false) st with
    | v :: r => bif Nat.beq v.category 1 then some (pc + 1, lv2, r, h) else none
    | _ => none)) = some (pc', l2, st', h2) := hs
  simp only [Bool.cond_eq_ite] at hs
  have key : ∀ x : Cfg, ((match (generalizing := false) st with
    | v :: r => bif Nat.beq v.category 1 then some (pc + 1, lv2, r, h) else none
    | _ => none)) = some x → x.2.1 = lv2 ∧ ((match (generalizing := false) st with
    | v :: r => bif Nat.beq v.category 1 then some (pc + 1, lv, r, h) else none
    | _ => none)) = some (x.1, lv, x.2.2.1, x.2.2.2) := by
    clear hs hu hu2 hsub
    intro x hx
    simp only [Bool.cond_eq_ite] at hx ⊢
    repeat' split at hx
    all_goals first | (cases hx; done) | (cases hx; exact ⟨rfl, rfl⟩) | (cases hx; refine ⟨rfl, ?_⟩; simp_all; done) | (cases hx; refine ⟨rfl, ?_⟩; simp_all; (intro hh; first | omega | exact absurd hh (Int32.not_lt.mpr (by assumption))))
  simp only [← Bool.cond_eq_ite] at hs
  obtain ⟨e1, e2⟩ := key _ (show ((match (generalizing := false) st with
    | v :: r => bif Nat.beq v.category 1 then some (pc + 1, lv2, r, h) else none
    | _ => none)) = some (pc', l2, st', h2) by first | exact hs | simpa only [Bool.cond_eq_ite] using hs)
  replace e1 : l2 = lv2 := e1
  subst e1
  exact ⟨lv, e2, hu, hu2, hsub⟩
theorem zb_iadd  {scr : Option (Nat × (Nat → Int32))} {own nL pc len : Nat} {ini : Bool} {lv lv2 l2 : LV} {st st' : List Value} {h h2 : Hp} {pc' : Nat} (hs : zStep scr own nL pc ini (.iadd) len lv2 st h = some (pc', l2, st', h2)) (hu : uk lv) (hu2 : uk lv2) (hsub : Sub lv2 lv) : ∃ l1, zStep scr own nL pc ini (.iadd) len lv st h = some (pc', l1, st', h2) ∧ uk l1 ∧ uk l2 ∧ Sub l2 l1 := by
  replace hs : ((match (generalizing := false) st with
    | .int y :: .int x :: r => some (pc + 1, lv2, .int (x + y) :: r, h)
    | _ => none)) = some (pc', l2, st', h2) := hs
  have key : ∀ x : Cfg, ((match (generalizing := false) st with
    | .int y :: .int x :: r => some (pc + 1, lv2, .int (x + y) :: r, h)
    | _ => none)) = some x → x.2.1 = lv2 ∧ ((match (generalizing := false) st with
    | .int y :: .int x :: r => some (pc + 1, lv, .int (x + y) :: r, h)
    | _ => none)) = some (x.1, lv, x.2.2.1, x.2.2.2) := by
    clear hs hu hu2 hsub
    intro x hx
    repeat' split at hx
    all_goals first | (cases hx; done) | (cases hx; exact ⟨rfl, rfl⟩) | (cases hx; refine ⟨rfl, ?_⟩; simp_all; done) | (cases hx; refine ⟨rfl, ?_⟩; simp_all; (intro hh; first | omega | exact absurd hh (Int32.not_lt.mpr (by assumption))))
  obtain ⟨e1, e2⟩ := key _ (show ((match (generalizing := false) st with
    | .int y :: .int x :: r => some (pc + 1, lv2, .int (x + y) :: r, h)
    | _ => none)) = some (pc', l2, st', h2) by first | exact hs | simpa only [Bool.cond_eq_ite] using hs)
  replace e1 : l2 = lv2 := e1
  subst e1
  exact ⟨lv, e2, hu, hu2, hsub⟩
theorem zb_isub  {scr : Option (Nat × (Nat → Int32))} {own nL pc len : Nat} {ini : Bool} {lv lv2 l2 : LV} {st st' : List Value} {h h2 : Hp} {pc' : Nat} (hs : zStep scr own nL pc ini (.isub) len lv2 st h = some (pc', l2, st', h2)) (hu : uk lv) (hu2 : uk lv2) (hsub : Sub lv2 lv) : ∃ l1, zStep scr own nL pc ini (.isub) len lv st h = some (pc', l1, st', h2) ∧ uk l1 ∧ uk l2 ∧ Sub l2 l1 := by
  replace hs : ((match (generalizing := false) st with
    | .int y :: .int x :: r => some (pc + 1, lv2, .int (x - y) :: r, h)
    | _ => none)) = some (pc', l2, st', h2) := hs
  have key : ∀ x : Cfg, ((match (generalizing := false) st with
    | .int y :: .int x :: r => some (pc + 1, lv2, .int (x - y) :: r, h)
    | _ => none)) = some x → x.2.1 = lv2 ∧ ((match (generalizing := false) st with
    | .int y :: .int x :: r => some (pc + 1, lv, .int (x - y) :: r, h)
    | _ => none)) = some (x.1, lv, x.2.2.1, x.2.2.2) := by
    clear hs hu hu2 hsub
    intro x hx
    repeat' split at hx
    all_goals first | (cases hx; done) | (cases hx; exact ⟨rfl, rfl⟩) | (cases hx; refine ⟨rfl, ?_⟩; simp_all; done) | (cases hx; refine ⟨rfl, ?_⟩; simp_all; (intro hh; first | omega | exact absurd hh (Int32.not_lt.mpr (by assumption))))
  obtain ⟨e1, e2⟩ := key _ (show ((match (generalizing := false) st with
    | .int y :: .int x :: r => some (pc + 1, lv2, .int (x - y) :: r, h)
    | _ => none)) = some (pc', l2, st', h2) by first | exact hs | simpa only [Bool.cond_eq_ite] using hs)
  replace e1 : l2 = lv2 := e1
  subst e1
  exact ⟨lv, e2, hu, hu2, hsub⟩
theorem zb_imul  {scr : Option (Nat × (Nat → Int32))} {own nL pc len : Nat} {ini : Bool} {lv lv2 l2 : LV} {st st' : List Value} {h h2 : Hp} {pc' : Nat} (hs : zStep scr own nL pc ini (.imul) len lv2 st h = some (pc', l2, st', h2)) (hu : uk lv) (hu2 : uk lv2) (hsub : Sub lv2 lv) : ∃ l1, zStep scr own nL pc ini (.imul) len lv st h = some (pc', l1, st', h2) ∧ uk l1 ∧ uk l2 ∧ Sub l2 l1 := by
  replace hs : ((match (generalizing := false) st with
    | .int y :: .int x :: r => some (pc + 1, lv2, .int (x * y) :: r, h)
    | _ => none)) = some (pc', l2, st', h2) := hs
  have key : ∀ x : Cfg, ((match (generalizing := false) st with
    | .int y :: .int x :: r => some (pc + 1, lv2, .int (x * y) :: r, h)
    | _ => none)) = some x → x.2.1 = lv2 ∧ ((match (generalizing := false) st with
    | .int y :: .int x :: r => some (pc + 1, lv, .int (x * y) :: r, h)
    | _ => none)) = some (x.1, lv, x.2.2.1, x.2.2.2) := by
    clear hs hu hu2 hsub
    intro x hx
    repeat' split at hx
    all_goals first | (cases hx; done) | (cases hx; exact ⟨rfl, rfl⟩) | (cases hx; refine ⟨rfl, ?_⟩; simp_all; done) | (cases hx; refine ⟨rfl, ?_⟩; simp_all; (intro hh; first | omega | exact absurd hh (Int32.not_lt.mpr (by assumption))))
  obtain ⟨e1, e2⟩ := key _ (show ((match (generalizing := false) st with
    | .int y :: .int x :: r => some (pc + 1, lv2, .int (x * y) :: r, h)
    | _ => none)) = some (pc', l2, st', h2) by first | exact hs | simpa only [Bool.cond_eq_ite] using hs)
  replace e1 : l2 = lv2 := e1
  subst e1
  exact ⟨lv, e2, hu, hu2, hsub⟩
theorem zb_idiv  {scr : Option (Nat × (Nat → Int32))} {own nL pc len : Nat} {ini : Bool} {lv lv2 l2 : LV} {st st' : List Value} {h h2 : Hp} {pc' : Nat} (hs : zStep scr own nL pc ini (.idiv) len lv2 st h = some (pc', l2, st', h2)) (hu : uk lv) (hu2 : uk lv2) (hsub : Sub lv2 lv) : ∃ l1, zStep scr own nL pc ini (.idiv) len lv st h = some (pc', l1, st', h2) ∧ uk l1 ∧ uk l2 ∧ Sub l2 l1 := by
  replace hs : ((match (generalizing := false) st with
    | .int y :: .int x :: r => if y = 0 then none else some (pc + 1, lv2, .int (x / y) :: r, h)
    | _ => none)) = some (pc', l2, st', h2) := hs
  have key : ∀ x : Cfg, ((match (generalizing := false) st with
    | .int y :: .int x :: r => if y = 0 then none else some (pc + 1, lv2, .int (x / y) :: r, h)
    | _ => none)) = some x → x.2.1 = lv2 ∧ ((match (generalizing := false) st with
    | .int y :: .int x :: r => if y = 0 then none else some (pc + 1, lv, .int (x / y) :: r, h)
    | _ => none)) = some (x.1, lv, x.2.2.1, x.2.2.2) := by
    clear hs hu hu2 hsub
    intro x hx
    repeat' split at hx
    all_goals first | (cases hx; done) | (cases hx; exact ⟨rfl, rfl⟩) | (cases hx; refine ⟨rfl, ?_⟩; simp_all; done) | (cases hx; refine ⟨rfl, ?_⟩; simp_all; (intro hh; first | omega | exact absurd hh (Int32.not_lt.mpr (by assumption))))
  obtain ⟨e1, e2⟩ := key _ (show ((match (generalizing := false) st with
    | .int y :: .int x :: r => if y = 0 then none else some (pc + 1, lv2, .int (x / y) :: r, h)
    | _ => none)) = some (pc', l2, st', h2) by first | exact hs | simpa only [Bool.cond_eq_ite] using hs)
  replace e1 : l2 = lv2 := e1
  subst e1
  exact ⟨lv, e2, hu, hu2, hsub⟩
theorem zb_irem  {scr : Option (Nat × (Nat → Int32))} {own nL pc len : Nat} {ini : Bool} {lv lv2 l2 : LV} {st st' : List Value} {h h2 : Hp} {pc' : Nat} (hs : zStep scr own nL pc ini (.irem) len lv2 st h = some (pc', l2, st', h2)) (hu : uk lv) (hu2 : uk lv2) (hsub : Sub lv2 lv) : ∃ l1, zStep scr own nL pc ini (.irem) len lv st h = some (pc', l1, st', h2) ∧ uk l1 ∧ uk l2 ∧ Sub l2 l1 := by
  replace hs : ((match (generalizing := false) st with
    | .int y :: .int x :: r => if y = 0 then none else some (pc + 1, lv2, .int (x - x / y * y) :: r, h)
    | _ => none)) = some (pc', l2, st', h2) := hs
  have key : ∀ x : Cfg, ((match (generalizing := false) st with
    | .int y :: .int x :: r => if y = 0 then none else some (pc + 1, lv2, .int (x - x / y * y) :: r, h)
    | _ => none)) = some x → x.2.1 = lv2 ∧ ((match (generalizing := false) st with
    | .int y :: .int x :: r => if y = 0 then none else some (pc + 1, lv, .int (x - x / y * y) :: r, h)
    | _ => none)) = some (x.1, lv, x.2.2.1, x.2.2.2) := by
    clear hs hu hu2 hsub
    intro x hx
    repeat' split at hx
    all_goals first | (cases hx; done) | (cases hx; exact ⟨rfl, rfl⟩) | (cases hx; refine ⟨rfl, ?_⟩; simp_all; done) | (cases hx; refine ⟨rfl, ?_⟩; simp_all; (intro hh; first | omega | exact absurd hh (Int32.not_lt.mpr (by assumption))))
  obtain ⟨e1, e2⟩ := key _ (show ((match (generalizing := false) st with
    | .int y :: .int x :: r => if y = 0 then none else some (pc + 1, lv2, .int (x - x / y * y) :: r, h)
    | _ => none)) = some (pc', l2, st', h2) by first | exact hs | simpa only [Bool.cond_eq_ite] using hs)
  replace e1 : l2 = lv2 := e1
  subst e1
  exact ⟨lv, e2, hu, hu2, hsub⟩
theorem zb_ineg  {scr : Option (Nat × (Nat → Int32))} {own nL pc len : Nat} {ini : Bool} {lv lv2 l2 : LV} {st st' : List Value} {h h2 : Hp} {pc' : Nat} (hs : zStep scr own nL pc ini (.ineg) len lv2 st h = some (pc', l2, st', h2)) (hu : uk lv) (hu2 : uk lv2) (hsub : Sub lv2 lv) : ∃ l1, zStep scr own nL pc ini (.ineg) len lv st h = some (pc', l1, st', h2) ∧ uk l1 ∧ uk l2 ∧ Sub l2 l1 := by
  replace hs : ((match (generalizing := false) st with
    | .int x :: r => some (pc + 1, lv2, .int (-x) :: r, h)
    | _ => none)) = some (pc', l2, st', h2) := hs
  have key : ∀ x : Cfg, ((match (generalizing := false) st with
    | .int x :: r => some (pc + 1, lv2, .int (-x) :: r, h)
    | _ => none)) = some x → x.2.1 = lv2 ∧ ((match (generalizing := false) st with
    | .int x :: r => some (pc + 1, lv, .int (-x) :: r, h)
    | _ => none)) = some (x.1, lv, x.2.2.1, x.2.2.2) := by
    clear hs hu hu2 hsub
    intro x hx
    repeat' split at hx
    all_goals first | (cases hx; done) | (cases hx; exact ⟨rfl, rfl⟩) | (cases hx; refine ⟨rfl, ?_⟩; simp_all; done) | (cases hx; refine ⟨rfl, ?_⟩; simp_all; (intro hh; first | omega | exact absurd hh (Int32.not_lt.mpr (by assumption))))
  obtain ⟨e1, e2⟩ := key _ (show ((match (generalizing := false) st with
    | .int x :: r => some (pc + 1, lv2, .int (-x) :: r, h)
    | _ => none)) = some (pc', l2, st', h2) by first | exact hs | simpa only [Bool.cond_eq_ite] using hs)
  replace e1 : l2 = lv2 := e1
  subst e1
  exact ⟨lv, e2, hu, hu2, hsub⟩
theorem zb_ishl  {scr : Option (Nat × (Nat → Int32))} {own nL pc len : Nat} {ini : Bool} {lv lv2 l2 : LV} {st st' : List Value} {h h2 : Hp} {pc' : Nat} (hs : zStep scr own nL pc ini (.ishl) len lv2 st h = some (pc', l2, st', h2)) (hu : uk lv) (hu2 : uk lv2) (hsub : Sub lv2 lv) : ∃ l1, zStep scr own nL pc ini (.ishl) len lv st h = some (pc', l1, st', h2) ∧ uk l1 ∧ uk l2 ∧ Sub l2 l1 := by
  replace hs : ((match (generalizing := false) st with
    | .int y :: .int x :: r => some (pc + 1, lv2, .int (x <<< (y &&& 31)) :: r, h)
    | _ => none)) = some (pc', l2, st', h2) := hs
  have key : ∀ x : Cfg, ((match (generalizing := false) st with
    | .int y :: .int x :: r => some (pc + 1, lv2, .int (x <<< (y &&& 31)) :: r, h)
    | _ => none)) = some x → x.2.1 = lv2 ∧ ((match (generalizing := false) st with
    | .int y :: .int x :: r => some (pc + 1, lv, .int (x <<< (y &&& 31)) :: r, h)
    | _ => none)) = some (x.1, lv, x.2.2.1, x.2.2.2) := by
    clear hs hu hu2 hsub
    intro x hx
    repeat' split at hx
    all_goals first | (cases hx; done) | (cases hx; exact ⟨rfl, rfl⟩) | (cases hx; refine ⟨rfl, ?_⟩; simp_all; done) | (cases hx; refine ⟨rfl, ?_⟩; simp_all; (intro hh; first | omega | exact absurd hh (Int32.not_lt.mpr (by assumption))))
  obtain ⟨e1, e2⟩ := key _ (show ((match (generalizing := false) st with
    | .int y :: .int x :: r => some (pc + 1, lv2, .int (x <<< (y &&& 31)) :: r, h)
    | _ => none)) = some (pc', l2, st', h2) by first | exact hs | simpa only [Bool.cond_eq_ite] using hs)
  replace e1 : l2 = lv2 := e1
  subst e1
  exact ⟨lv, e2, hu, hu2, hsub⟩
theorem zb_ishr  {scr : Option (Nat × (Nat → Int32))} {own nL pc len : Nat} {ini : Bool} {lv lv2 l2 : LV} {st st' : List Value} {h h2 : Hp} {pc' : Nat} (hs : zStep scr own nL pc ini (.ishr) len lv2 st h = some (pc', l2, st', h2)) (hu : uk lv) (hu2 : uk lv2) (hsub : Sub lv2 lv) : ∃ l1, zStep scr own nL pc ini (.ishr) len lv st h = some (pc', l1, st', h2) ∧ uk l1 ∧ uk l2 ∧ Sub l2 l1 := by
  replace hs : ((match (generalizing := false) st with
    | .int y :: .int x :: r => some (pc + 1, lv2, .int (x >>> (y &&& 31)) :: r, h)
    | _ => none)) = some (pc', l2, st', h2) := hs
  have key : ∀ x : Cfg, ((match (generalizing := false) st with
    | .int y :: .int x :: r => some (pc + 1, lv2, .int (x >>> (y &&& 31)) :: r, h)
    | _ => none)) = some x → x.2.1 = lv2 ∧ ((match (generalizing := false) st with
    | .int y :: .int x :: r => some (pc + 1, lv, .int (x >>> (y &&& 31)) :: r, h)
    | _ => none)) = some (x.1, lv, x.2.2.1, x.2.2.2) := by
    clear hs hu hu2 hsub
    intro x hx
    repeat' split at hx
    all_goals first | (cases hx; done) | (cases hx; exact ⟨rfl, rfl⟩) | (cases hx; refine ⟨rfl, ?_⟩; simp_all; done) | (cases hx; refine ⟨rfl, ?_⟩; simp_all; (intro hh; first | omega | exact absurd hh (Int32.not_lt.mpr (by assumption))))
  obtain ⟨e1, e2⟩ := key _ (show ((match (generalizing := false) st with
    | .int y :: .int x :: r => some (pc + 1, lv2, .int (x >>> (y &&& 31)) :: r, h)
    | _ => none)) = some (pc', l2, st', h2) by first | exact hs | simpa only [Bool.cond_eq_ite] using hs)
  replace e1 : l2 = lv2 := e1
  subst e1
  exact ⟨lv, e2, hu, hu2, hsub⟩
theorem zb_iushr  {scr : Option (Nat × (Nat → Int32))} {own nL pc len : Nat} {ini : Bool} {lv lv2 l2 : LV} {st st' : List Value} {h h2 : Hp} {pc' : Nat} (hs : zStep scr own nL pc ini (.iushr) len lv2 st h = some (pc', l2, st', h2)) (hu : uk lv) (hu2 : uk lv2) (hsub : Sub lv2 lv) : ∃ l1, zStep scr own nL pc ini (.iushr) len lv st h = some (pc', l1, st', h2) ∧ uk l1 ∧ uk l2 ∧ Sub l2 l1 := by
  replace hs : ((match (generalizing := false) st with
    | .int y :: .int x :: r => some (pc + 1, lv2, .int (x.toUInt32 >>> (y.toUInt32 &&& Int32.toUInt32 31)).toInt32 :: r, h)
    | _ => none)) = some (pc', l2, st', h2) := hs
  have key : ∀ x : Cfg, ((match (generalizing := false) st with
    | .int y :: .int x :: r => some (pc + 1, lv2, .int (x.toUInt32 >>> (y.toUInt32 &&& Int32.toUInt32 31)).toInt32 :: r, h)
    | _ => none)) = some x → x.2.1 = lv2 ∧ ((match (generalizing := false) st with
    | .int y :: .int x :: r => some (pc + 1, lv, .int (x.toUInt32 >>> (y.toUInt32 &&& Int32.toUInt32 31)).toInt32 :: r, h)
    | _ => none)) = some (x.1, lv, x.2.2.1, x.2.2.2) := by
    clear hs hu hu2 hsub
    intro x hx
    repeat' split at hx
    all_goals first | (cases hx; done) | (cases hx; exact ⟨rfl, rfl⟩) | (cases hx; refine ⟨rfl, ?_⟩; simp_all; done) | (cases hx; refine ⟨rfl, ?_⟩; simp_all; (intro hh; first | omega | exact absurd hh (Int32.not_lt.mpr (by assumption))))
  obtain ⟨e1, e2⟩ := key _ (show ((match (generalizing := false) st with
    | .int y :: .int x :: r => some (pc + 1, lv2, .int (x.toUInt32 >>> (y.toUInt32 &&& Int32.toUInt32 31)).toInt32 :: r, h)
    | _ => none)) = some (pc', l2, st', h2) by first | exact hs | simpa only [Bool.cond_eq_ite] using hs)
  replace e1 : l2 = lv2 := e1
  subst e1
  exact ⟨lv, e2, hu, hu2, hsub⟩
theorem zb_iand  {scr : Option (Nat × (Nat → Int32))} {own nL pc len : Nat} {ini : Bool} {lv lv2 l2 : LV} {st st' : List Value} {h h2 : Hp} {pc' : Nat} (hs : zStep scr own nL pc ini (.iand) len lv2 st h = some (pc', l2, st', h2)) (hu : uk lv) (hu2 : uk lv2) (hsub : Sub lv2 lv) : ∃ l1, zStep scr own nL pc ini (.iand) len lv st h = some (pc', l1, st', h2) ∧ uk l1 ∧ uk l2 ∧ Sub l2 l1 := by
  replace hs : ((match (generalizing := false) st with
    | .int y :: .int x :: r => some (pc + 1, lv2, .int (x &&& y) :: r, h)
    | _ => none)) = some (pc', l2, st', h2) := hs
  have key : ∀ x : Cfg, ((match (generalizing := false) st with
    | .int y :: .int x :: r => some (pc + 1, lv2, .int (x &&& y) :: r, h)
    | _ => none)) = some x → x.2.1 = lv2 ∧ ((match (generalizing := false) st with
    | .int y :: .int x :: r => some (pc + 1, lv, .int (x &&& y) :: r, h)
    | _ => none)) = some (x.1, lv, x.2.2.1, x.2.2.2) := by
    clear hs hu hu2 hsub
    intro x hx
    repeat' split at hx
    all_goals first | (cases hx; done) | (cases hx; exact ⟨rfl, rfl⟩) | (cases hx; refine ⟨rfl, ?_⟩; simp_all; done) | (cases hx; refine ⟨rfl, ?_⟩; simp_all; (intro hh; first | omega | exact absurd hh (Int32.not_lt.mpr (by assumption))))
  obtain ⟨e1, e2⟩ := key _ (show ((match (generalizing := false) st with
    | .int y :: .int x :: r => some (pc + 1, lv2, .int (x &&& y) :: r, h)
    | _ => none)) = some (pc', l2, st', h2) by first | exact hs | simpa only [Bool.cond_eq_ite] using hs)
  replace e1 : l2 = lv2 := e1
  subst e1
  exact ⟨lv, e2, hu, hu2, hsub⟩
theorem zb_ior  {scr : Option (Nat × (Nat → Int32))} {own nL pc len : Nat} {ini : Bool} {lv lv2 l2 : LV} {st st' : List Value} {h h2 : Hp} {pc' : Nat} (hs : zStep scr own nL pc ini (.ior) len lv2 st h = some (pc', l2, st', h2)) (hu : uk lv) (hu2 : uk lv2) (hsub : Sub lv2 lv) : ∃ l1, zStep scr own nL pc ini (.ior) len lv st h = some (pc', l1, st', h2) ∧ uk l1 ∧ uk l2 ∧ Sub l2 l1 := by
  replace hs : ((match (generalizing := false) st with
    | .int y :: .int x :: r => some (pc + 1, lv2, .int (x ||| y) :: r, h)
    | _ => none)) = some (pc', l2, st', h2) := hs
  have key : ∀ x : Cfg, ((match (generalizing := false) st with
    | .int y :: .int x :: r => some (pc + 1, lv2, .int (x ||| y) :: r, h)
    | _ => none)) = some x → x.2.1 = lv2 ∧ ((match (generalizing := false) st with
    | .int y :: .int x :: r => some (pc + 1, lv, .int (x ||| y) :: r, h)
    | _ => none)) = some (x.1, lv, x.2.2.1, x.2.2.2) := by
    clear hs hu hu2 hsub
    intro x hx
    repeat' split at hx
    all_goals first | (cases hx; done) | (cases hx; exact ⟨rfl, rfl⟩) | (cases hx; refine ⟨rfl, ?_⟩; simp_all; done) | (cases hx; refine ⟨rfl, ?_⟩; simp_all; (intro hh; first | omega | exact absurd hh (Int32.not_lt.mpr (by assumption))))
  obtain ⟨e1, e2⟩ := key _ (show ((match (generalizing := false) st with
    | .int y :: .int x :: r => some (pc + 1, lv2, .int (x ||| y) :: r, h)
    | _ => none)) = some (pc', l2, st', h2) by first | exact hs | simpa only [Bool.cond_eq_ite] using hs)
  replace e1 : l2 = lv2 := e1
  subst e1
  exact ⟨lv, e2, hu, hu2, hsub⟩
theorem zb_ixor  {scr : Option (Nat × (Nat → Int32))} {own nL pc len : Nat} {ini : Bool} {lv lv2 l2 : LV} {st st' : List Value} {h h2 : Hp} {pc' : Nat} (hs : zStep scr own nL pc ini (.ixor) len lv2 st h = some (pc', l2, st', h2)) (hu : uk lv) (hu2 : uk lv2) (hsub : Sub lv2 lv) : ∃ l1, zStep scr own nL pc ini (.ixor) len lv st h = some (pc', l1, st', h2) ∧ uk l1 ∧ uk l2 ∧ Sub l2 l1 := by
  replace hs : ((match (generalizing := false) st with
    | .int y :: .int x :: r => some (pc + 1, lv2, .int (x ^^^ y) :: r, h)
    | _ => none)) = some (pc', l2, st', h2) := hs
  have key : ∀ x : Cfg, ((match (generalizing := false) st with
    | .int y :: .int x :: r => some (pc + 1, lv2, .int (x ^^^ y) :: r, h)
    | _ => none)) = some x → x.2.1 = lv2 ∧ ((match (generalizing := false) st with
    | .int y :: .int x :: r => some (pc + 1, lv, .int (x ^^^ y) :: r, h)
    | _ => none)) = some (x.1, lv, x.2.2.1, x.2.2.2) := by
    clear hs hu hu2 hsub
    intro x hx
    repeat' split at hx
    all_goals first | (cases hx; done) | (cases hx; exact ⟨rfl, rfl⟩) | (cases hx; refine ⟨rfl, ?_⟩; simp_all; done) | (cases hx; refine ⟨rfl, ?_⟩; simp_all; (intro hh; first | omega | exact absurd hh (Int32.not_lt.mpr (by assumption))))
  obtain ⟨e1, e2⟩ := key _ (show ((match (generalizing := false) st with
    | .int y :: .int x :: r => some (pc + 1, lv2, .int (x ^^^ y) :: r, h)
    | _ => none)) = some (pc', l2, st', h2) by first | exact hs | simpa only [Bool.cond_eq_ite] using hs)
  replace e1 : l2 = lv2 := e1
  subst e1
  exact ⟨lv, e2, hu, hu2, hsub⟩
theorem zb_i2l  {scr : Option (Nat × (Nat → Int32))} {own nL pc len : Nat} {ini : Bool} {lv lv2 l2 : LV} {st st' : List Value} {h h2 : Hp} {pc' : Nat} (hs : zStep scr own nL pc ini (.i2l) len lv2 st h = some (pc', l2, st', h2)) (hu : uk lv) (hu2 : uk lv2) (hsub : Sub lv2 lv) : ∃ l1, zStep scr own nL pc ini (.i2l) len lv st h = some (pc', l1, st', h2) ∧ uk l1 ∧ uk l2 ∧ Sub l2 l1 := by
  replace hs : ((match (generalizing := false) st with
    | .int x :: r => some (pc + 1, lv2, .long x.toInt64 :: r, h)
    | _ => none)) = some (pc', l2, st', h2) := hs
  have key : ∀ x : Cfg, ((match (generalizing := false) st with
    | .int x :: r => some (pc + 1, lv2, .long x.toInt64 :: r, h)
    | _ => none)) = some x → x.2.1 = lv2 ∧ ((match (generalizing := false) st with
    | .int x :: r => some (pc + 1, lv, .long x.toInt64 :: r, h)
    | _ => none)) = some (x.1, lv, x.2.2.1, x.2.2.2) := by
    clear hs hu hu2 hsub
    intro x hx
    repeat' split at hx
    all_goals first | (cases hx; done) | (cases hx; exact ⟨rfl, rfl⟩) | (cases hx; refine ⟨rfl, ?_⟩; simp_all; done) | (cases hx; refine ⟨rfl, ?_⟩; simp_all; (intro hh; first | omega | exact absurd hh (Int32.not_lt.mpr (by assumption))))
  obtain ⟨e1, e2⟩ := key _ (show ((match (generalizing := false) st with
    | .int x :: r => some (pc + 1, lv2, .long x.toInt64 :: r, h)
    | _ => none)) = some (pc', l2, st', h2) by first | exact hs | simpa only [Bool.cond_eq_ite] using hs)
  replace e1 : l2 = lv2 := e1
  subst e1
  exact ⟨lv, e2, hu, hu2, hsub⟩
theorem zb_i2b  {scr : Option (Nat × (Nat → Int32))} {own nL pc len : Nat} {ini : Bool} {lv lv2 l2 : LV} {st st' : List Value} {h h2 : Hp} {pc' : Nat} (hs : zStep scr own nL pc ini (.i2b) len lv2 st h = some (pc', l2, st', h2)) (hu : uk lv) (hu2 : uk lv2) (hsub : Sub lv2 lv) : ∃ l1, zStep scr own nL pc ini (.i2b) len lv st h = some (pc', l1, st', h2) ∧ uk l1 ∧ uk l2 ∧ Sub l2 l1 := by
  replace hs : ((match (generalizing := false) st with
    | .int x :: r => some (pc + 1, lv2, .int x.toInt8.toInt32 :: r, h)
    | _ => none)) = some (pc', l2, st', h2) := hs
  have key : ∀ x : Cfg, ((match (generalizing := false) st with
    | .int x :: r => some (pc + 1, lv2, .int x.toInt8.toInt32 :: r, h)
    | _ => none)) = some x → x.2.1 = lv2 ∧ ((match (generalizing := false) st with
    | .int x :: r => some (pc + 1, lv, .int x.toInt8.toInt32 :: r, h)
    | _ => none)) = some (x.1, lv, x.2.2.1, x.2.2.2) := by
    clear hs hu hu2 hsub
    intro x hx
    repeat' split at hx
    all_goals first | (cases hx; done) | (cases hx; exact ⟨rfl, rfl⟩) | (cases hx; refine ⟨rfl, ?_⟩; simp_all; done) | (cases hx; refine ⟨rfl, ?_⟩; simp_all; (intro hh; first | omega | exact absurd hh (Int32.not_lt.mpr (by assumption))))
  obtain ⟨e1, e2⟩ := key _ (show ((match (generalizing := false) st with
    | .int x :: r => some (pc + 1, lv2, .int x.toInt8.toInt32 :: r, h)
    | _ => none)) = some (pc', l2, st', h2) by first | exact hs | simpa only [Bool.cond_eq_ite] using hs)
  replace e1 : l2 = lv2 := e1
  subst e1
  exact ⟨lv, e2, hu, hu2, hsub⟩
theorem zb_l2i  {scr : Option (Nat × (Nat → Int32))} {own nL pc len : Nat} {ini : Bool} {lv lv2 l2 : LV} {st st' : List Value} {h h2 : Hp} {pc' : Nat} (hs : zStep scr own nL pc ini (.l2i) len lv2 st h = some (pc', l2, st', h2)) (hu : uk lv) (hu2 : uk lv2) (hsub : Sub lv2 lv) : ∃ l1, zStep scr own nL pc ini (.l2i) len lv st h = some (pc', l1, st', h2) ∧ uk l1 ∧ uk l2 ∧ Sub l2 l1 := by
  replace hs : ((match (generalizing := false) st with
    | .long x :: r => some (pc + 1, lv2, .int x.toInt32 :: r, h)
    | _ => none)) = some (pc', l2, st', h2) := hs
  have key : ∀ x : Cfg, ((match (generalizing := false) st with
    | .long x :: r => some (pc + 1, lv2, .int x.toInt32 :: r, h)
    | _ => none)) = some x → x.2.1 = lv2 ∧ ((match (generalizing := false) st with
    | .long x :: r => some (pc + 1, lv, .int x.toInt32 :: r, h)
    | _ => none)) = some (x.1, lv, x.2.2.1, x.2.2.2) := by
    clear hs hu hu2 hsub
    intro x hx
    repeat' split at hx
    all_goals first | (cases hx; done) | (cases hx; exact ⟨rfl, rfl⟩) | (cases hx; refine ⟨rfl, ?_⟩; simp_all; done) | (cases hx; refine ⟨rfl, ?_⟩; simp_all; (intro hh; first | omega | exact absurd hh (Int32.not_lt.mpr (by assumption))))
  obtain ⟨e1, e2⟩ := key _ (show ((match (generalizing := false) st with
    | .long x :: r => some (pc + 1, lv2, .int x.toInt32 :: r, h)
    | _ => none)) = some (pc', l2, st', h2) by first | exact hs | simpa only [Bool.cond_eq_ite] using hs)
  replace e1 : l2 = lv2 := e1
  subst e1
  exact ⟨lv, e2, hu, hu2, hsub⟩
theorem zb_ladd  {scr : Option (Nat × (Nat → Int32))} {own nL pc len : Nat} {ini : Bool} {lv lv2 l2 : LV} {st st' : List Value} {h h2 : Hp} {pc' : Nat} (hs : zStep scr own nL pc ini (.ladd) len lv2 st h = some (pc', l2, st', h2)) (hu : uk lv) (hu2 : uk lv2) (hsub : Sub lv2 lv) : ∃ l1, zStep scr own nL pc ini (.ladd) len lv st h = some (pc', l1, st', h2) ∧ uk l1 ∧ uk l2 ∧ Sub l2 l1 := by
  replace hs : ((match (generalizing := false) st with
    | .long y :: .long x :: r => some (pc + 1, lv2, .long (x + y) :: r, h)
    | _ => none)) = some (pc', l2, st', h2) := hs
  have key : ∀ x : Cfg, ((match (generalizing := false) st with
    | .long y :: .long x :: r => some (pc + 1, lv2, .long (x + y) :: r, h)
    | _ => none)) = some x → x.2.1 = lv2 ∧ ((match (generalizing := false) st with
    | .long y :: .long x :: r => some (pc + 1, lv, .long (x + y) :: r, h)
    | _ => none)) = some (x.1, lv, x.2.2.1, x.2.2.2) := by
    clear hs hu hu2 hsub
    intro x hx
    repeat' split at hx
    all_goals first | (cases hx; done) | (cases hx; exact ⟨rfl, rfl⟩) | (cases hx; refine ⟨rfl, ?_⟩; simp_all; done) | (cases hx; refine ⟨rfl, ?_⟩; simp_all; (intro hh; first | omega | exact absurd hh (Int32.not_lt.mpr (by assumption))))
  obtain ⟨e1, e2⟩ := key _ (show ((match (generalizing := false) st with
    | .long y :: .long x :: r => some (pc + 1, lv2, .long (x + y) :: r, h)
    | _ => none)) = some (pc', l2, st', h2) by first | exact hs | simpa only [Bool.cond_eq_ite] using hs)
  replace e1 : l2 = lv2 := e1
  subst e1
  exact ⟨lv, e2, hu, hu2, hsub⟩
theorem zb_lsub  {scr : Option (Nat × (Nat → Int32))} {own nL pc len : Nat} {ini : Bool} {lv lv2 l2 : LV} {st st' : List Value} {h h2 : Hp} {pc' : Nat} (hs : zStep scr own nL pc ini (.lsub) len lv2 st h = some (pc', l2, st', h2)) (hu : uk lv) (hu2 : uk lv2) (hsub : Sub lv2 lv) : ∃ l1, zStep scr own nL pc ini (.lsub) len lv st h = some (pc', l1, st', h2) ∧ uk l1 ∧ uk l2 ∧ Sub l2 l1 := by
  replace hs : ((match (generalizing := false) st with
    | .long y :: .long x :: r => some (pc + 1, lv2, .long (x - y) :: r, h)
    | _ => none)) = some (pc', l2, st', h2) := hs
  have key : ∀ x : Cfg, ((match (generalizing := false) st with
    | .long y :: .long x :: r => some (pc + 1, lv2, .long (x - y) :: r, h)
    | _ => none)) = some x → x.2.1 = lv2 ∧ ((match (generalizing := false) st with
    | .long y :: .long x :: r => some (pc + 1, lv, .long (x - y) :: r, h)
    | _ => none)) = some (x.1, lv, x.2.2.1, x.2.2.2) := by
    clear hs hu hu2 hsub
    intro x hx
    repeat' split at hx
    all_goals first | (cases hx; done) | (cases hx; exact ⟨rfl, rfl⟩) | (cases hx; refine ⟨rfl, ?_⟩; simp_all; done) | (cases hx; refine ⟨rfl, ?_⟩; simp_all; (intro hh; first | omega | exact absurd hh (Int32.not_lt.mpr (by assumption))))
  obtain ⟨e1, e2⟩ := key _ (show ((match (generalizing := false) st with
    | .long y :: .long x :: r => some (pc + 1, lv2, .long (x - y) :: r, h)
    | _ => none)) = some (pc', l2, st', h2) by first | exact hs | simpa only [Bool.cond_eq_ite] using hs)
  replace e1 : l2 = lv2 := e1
  subst e1
  exact ⟨lv, e2, hu, hu2, hsub⟩
theorem zb_lmul  {scr : Option (Nat × (Nat → Int32))} {own nL pc len : Nat} {ini : Bool} {lv lv2 l2 : LV} {st st' : List Value} {h h2 : Hp} {pc' : Nat} (hs : zStep scr own nL pc ini (.lmul) len lv2 st h = some (pc', l2, st', h2)) (hu : uk lv) (hu2 : uk lv2) (hsub : Sub lv2 lv) : ∃ l1, zStep scr own nL pc ini (.lmul) len lv st h = some (pc', l1, st', h2) ∧ uk l1 ∧ uk l2 ∧ Sub l2 l1 := by
  replace hs : ((match (generalizing := false) st with
    | .long y :: .long x :: r => some (pc + 1, lv2, .long (x * y) :: r, h)
    | _ => none)) = some (pc', l2, st', h2) := hs
  have key : ∀ x : Cfg, ((match (generalizing := false) st with
    | .long y :: .long x :: r => some (pc + 1, lv2, .long (x * y) :: r, h)
    | _ => none)) = some x → x.2.1 = lv2 ∧ ((match (generalizing := false) st with
    | .long y :: .long x :: r => some (pc + 1, lv, .long (x * y) :: r, h)
    | _ => none)) = some (x.1, lv, x.2.2.1, x.2.2.2) := by
    clear hs hu hu2 hsub
    intro x hx
    repeat' split at hx
    all_goals first | (cases hx; done) | (cases hx; exact ⟨rfl, rfl⟩) | (cases hx; refine ⟨rfl, ?_⟩; simp_all; done) | (cases hx; refine ⟨rfl, ?_⟩; simp_all; (intro hh; first | omega | exact absurd hh (Int32.not_lt.mpr (by assumption))))
  obtain ⟨e1, e2⟩ := key _ (show ((match (generalizing := false) st with
    | .long y :: .long x :: r => some (pc + 1, lv2, .long (x * y) :: r, h)
    | _ => none)) = some (pc', l2, st', h2) by first | exact hs | simpa only [Bool.cond_eq_ite] using hs)
  replace e1 : l2 = lv2 := e1
  subst e1
  exact ⟨lv, e2, hu, hu2, hsub⟩
theorem zb_ldiv  {scr : Option (Nat × (Nat → Int32))} {own nL pc len : Nat} {ini : Bool} {lv lv2 l2 : LV} {st st' : List Value} {h h2 : Hp} {pc' : Nat} (hs : zStep scr own nL pc ini (.ldiv) len lv2 st h = some (pc', l2, st', h2)) (hu : uk lv) (hu2 : uk lv2) (hsub : Sub lv2 lv) : ∃ l1, zStep scr own nL pc ini (.ldiv) len lv st h = some (pc', l1, st', h2) ∧ uk l1 ∧ uk l2 ∧ Sub l2 l1 := by
  replace hs : ((match (generalizing := false) st with
    | .long y :: .long x :: r => if y = 0 then none else some (pc + 1, lv2, .long (x / y) :: r, h)
    | _ => none)) = some (pc', l2, st', h2) := hs
  have key : ∀ x : Cfg, ((match (generalizing := false) st with
    | .long y :: .long x :: r => if y = 0 then none else some (pc + 1, lv2, .long (x / y) :: r, h)
    | _ => none)) = some x → x.2.1 = lv2 ∧ ((match (generalizing := false) st with
    | .long y :: .long x :: r => if y = 0 then none else some (pc + 1, lv, .long (x / y) :: r, h)
    | _ => none)) = some (x.1, lv, x.2.2.1, x.2.2.2) := by
    clear hs hu hu2 hsub
    intro x hx
    repeat' split at hx
    all_goals first | (cases hx; done) | (cases hx; exact ⟨rfl, rfl⟩) | (cases hx; refine ⟨rfl, ?_⟩; simp_all; done) | (cases hx; refine ⟨rfl, ?_⟩; simp_all; (intro hh; first | omega | exact absurd hh (Int32.not_lt.mpr (by assumption))))
  obtain ⟨e1, e2⟩ := key _ (show ((match (generalizing := false) st with
    | .long y :: .long x :: r => if y = 0 then none else some (pc + 1, lv2, .long (x / y) :: r, h)
    | _ => none)) = some (pc', l2, st', h2) by first | exact hs | simpa only [Bool.cond_eq_ite] using hs)
  replace e1 : l2 = lv2 := e1
  subst e1
  exact ⟨lv, e2, hu, hu2, hsub⟩
theorem zb_lrem  {scr : Option (Nat × (Nat → Int32))} {own nL pc len : Nat} {ini : Bool} {lv lv2 l2 : LV} {st st' : List Value} {h h2 : Hp} {pc' : Nat} (hs : zStep scr own nL pc ini (.lrem) len lv2 st h = some (pc', l2, st', h2)) (hu : uk lv) (hu2 : uk lv2) (hsub : Sub lv2 lv) : ∃ l1, zStep scr own nL pc ini (.lrem) len lv st h = some (pc', l1, st', h2) ∧ uk l1 ∧ uk l2 ∧ Sub l2 l1 := by
  replace hs : ((match (generalizing := false) st with
    | .long y :: .long x :: r => if y = 0 then none else some (pc + 1, lv2, .long (x - x / y * y) :: r, h)
    | _ => none)) = some (pc', l2, st', h2) := hs
  have key : ∀ x : Cfg, ((match (generalizing := false) st with
    | .long y :: .long x :: r => if y = 0 then none else some (pc + 1, lv2, .long (x - x / y * y) :: r, h)
    | _ => none)) = some x → x.2.1 = lv2 ∧ ((match (generalizing := false) st with
    | .long y :: .long x :: r => if y = 0 then none else some (pc + 1, lv, .long (x - x / y * y) :: r, h)
    | _ => none)) = some (x.1, lv, x.2.2.1, x.2.2.2) := by
    clear hs hu hu2 hsub
    intro x hx
    repeat' split at hx
    all_goals first | (cases hx; done) | (cases hx; exact ⟨rfl, rfl⟩) | (cases hx; refine ⟨rfl, ?_⟩; simp_all; done) | (cases hx; refine ⟨rfl, ?_⟩; simp_all; (intro hh; first | omega | exact absurd hh (Int32.not_lt.mpr (by assumption))))
  obtain ⟨e1, e2⟩ := key _ (show ((match (generalizing := false) st with
    | .long y :: .long x :: r => if y = 0 then none else some (pc + 1, lv2, .long (x - x / y * y) :: r, h)
    | _ => none)) = some (pc', l2, st', h2) by first | exact hs | simpa only [Bool.cond_eq_ite] using hs)
  replace e1 : l2 = lv2 := e1
  subst e1
  exact ⟨lv, e2, hu, hu2, hsub⟩
theorem zb_land  {scr : Option (Nat × (Nat → Int32))} {own nL pc len : Nat} {ini : Bool} {lv lv2 l2 : LV} {st st' : List Value} {h h2 : Hp} {pc' : Nat} (hs : zStep scr own nL pc ini (.land) len lv2 st h = some (pc', l2, st', h2)) (hu : uk lv) (hu2 : uk lv2) (hsub : Sub lv2 lv) : ∃ l1, zStep scr own nL pc ini (.land) len lv st h = some (pc', l1, st', h2) ∧ uk l1 ∧ uk l2 ∧ Sub l2 l1 := by
  replace hs : ((match (generalizing := false) st with
    | .long y :: .long x :: r => some (pc + 1, lv2, .long (x &&& y) :: r, h)
    | _ => none)) = some (pc', l2, st', h2) := hs
  have key : ∀ x : Cfg, ((match (generalizing := false) st with
    | .long y :: .long x :: r => some (pc + 1, lv2, .long (x &&& y) :: r, h)
    | _ => none)) = some x → x.2.1 = lv2 ∧ ((match (generalizing := false) st with
    | .long y :: .long x :: r => some (pc + 1, lv, .long (x &&& y) :: r, h)
    | _ => none)) = some (x.1, lv, x.2.2.1, x.2.2.2) := by
    clear hs hu hu2 hsub
    intro x hx
    repeat' split at hx
    all_goals first | (cases hx; done) | (cases hx; exact ⟨rfl, rfl⟩) | (cases hx; refine ⟨rfl, ?_⟩; simp_all; done) | (cases hx; refine ⟨rfl, ?_⟩; simp_all; (intro hh; first | omega | exact absurd hh (Int32.not_lt.mpr (by assumption))))
  obtain ⟨e1, e2⟩ := key _ (show ((match (generalizing := false) st with
    | .long y :: .long x :: r => some (pc + 1, lv2, .long (x &&& y) :: r, h)
    | _ => none)) = some (pc', l2, st', h2) by first | exact hs | simpa only [Bool.cond_eq_ite] using hs)
  replace e1 : l2 = lv2 := e1
  subst e1
  exact ⟨lv, e2, hu, hu2, hsub⟩
theorem zb_lor  {scr : Option (Nat × (Nat → Int32))} {own nL pc len : Nat} {ini : Bool} {lv lv2 l2 : LV} {st st' : List Value} {h h2 : Hp} {pc' : Nat} (hs : zStep scr own nL pc ini (.lor) len lv2 st h = some (pc', l2, st', h2)) (hu : uk lv) (hu2 : uk lv2) (hsub : Sub lv2 lv) : ∃ l1, zStep scr own nL pc ini (.lor) len lv st h = some (pc', l1, st', h2) ∧ uk l1 ∧ uk l2 ∧ Sub l2 l1 := by
  replace hs : ((match (generalizing := false) st with
    | .long y :: .long x :: r => some (pc + 1, lv2, .long (x ||| y) :: r, h)
    | _ => none)) = some (pc', l2, st', h2) := hs
  have key : ∀ x : Cfg, ((match (generalizing := false) st with
    | .long y :: .long x :: r => some (pc + 1, lv2, .long (x ||| y) :: r, h)
    | _ => none)) = some x → x.2.1 = lv2 ∧ ((match (generalizing := false) st with
    | .long y :: .long x :: r => some (pc + 1, lv, .long (x ||| y) :: r, h)
    | _ => none)) = some (x.1, lv, x.2.2.1, x.2.2.2) := by
    clear hs hu hu2 hsub
    intro x hx
    repeat' split at hx
    all_goals first | (cases hx; done) | (cases hx; exact ⟨rfl, rfl⟩) | (cases hx; refine ⟨rfl, ?_⟩; simp_all; done) | (cases hx; refine ⟨rfl, ?_⟩; simp_all; (intro hh; first | omega | exact absurd hh (Int32.not_lt.mpr (by assumption))))
  obtain ⟨e1, e2⟩ := key _ (show ((match (generalizing := false) st with
    | .long y :: .long x :: r => some (pc + 1, lv2, .long (x ||| y) :: r, h)
    | _ => none)) = some (pc', l2, st', h2) by first | exact hs | simpa only [Bool.cond_eq_ite] using hs)
  replace e1 : l2 = lv2 := e1
  subst e1
  exact ⟨lv, e2, hu, hu2, hsub⟩
theorem zb_lshl  {scr : Option (Nat × (Nat → Int32))} {own nL pc len : Nat} {ini : Bool} {lv lv2 l2 : LV} {st st' : List Value} {h h2 : Hp} {pc' : Nat} (hs : zStep scr own nL pc ini (.lshl) len lv2 st h = some (pc', l2, st', h2)) (hu : uk lv) (hu2 : uk lv2) (hsub : Sub lv2 lv) : ∃ l1, zStep scr own nL pc ini (.lshl) len lv st h = some (pc', l1, st', h2) ∧ uk l1 ∧ uk l2 ∧ Sub l2 l1 := by
  replace hs : ((match (generalizing := false) st with
    | .int y :: .long x :: r => some (pc + 1, lv2, .long (x <<< (y.toInt64 &&& 63)) :: r, h)
    | _ => none)) = some (pc', l2, st', h2) := hs
  have key : ∀ x : Cfg, ((match (generalizing := false) st with
    | .int y :: .long x :: r => some (pc + 1, lv2, .long (x <<< (y.toInt64 &&& 63)) :: r, h)
    | _ => none)) = some x → x.2.1 = lv2 ∧ ((match (generalizing := false) st with
    | .int y :: .long x :: r => some (pc + 1, lv, .long (x <<< (y.toInt64 &&& 63)) :: r, h)
    | _ => none)) = some (x.1, lv, x.2.2.1, x.2.2.2) := by
    clear hs hu hu2 hsub
    intro x hx
    repeat' split at hx
    all_goals first | (cases hx; done) | (cases hx; exact ⟨rfl, rfl⟩) | (cases hx; refine ⟨rfl, ?_⟩; simp_all; done) | (cases hx; refine ⟨rfl, ?_⟩; simp_all; (intro hh; first | omega | exact absurd hh (Int32.not_lt.mpr (by assumption))))
  obtain ⟨e1, e2⟩ := key _ (show ((match (generalizing := false) st with
    | .int y :: .long x :: r => some (pc + 1, lv2, .long (x <<< (y.toInt64 &&& 63)) :: r, h)
    | _ => none)) = some (pc', l2, st', h2) by first | exact hs | simpa only [Bool.cond_eq_ite] using hs)
  replace e1 : l2 = lv2 := e1
  subst e1
  exact ⟨lv, e2, hu, hu2, hsub⟩
theorem zb_lshr  {scr : Option (Nat × (Nat → Int32))} {own nL pc len : Nat} {ini : Bool} {lv lv2 l2 : LV} {st st' : List Value} {h h2 : Hp} {pc' : Nat} (hs : zStep scr own nL pc ini (.lshr) len lv2 st h = some (pc', l2, st', h2)) (hu : uk lv) (hu2 : uk lv2) (hsub : Sub lv2 lv) : ∃ l1, zStep scr own nL pc ini (.lshr) len lv st h = some (pc', l1, st', h2) ∧ uk l1 ∧ uk l2 ∧ Sub l2 l1 := by
  replace hs : ((match (generalizing := false) st with
    | .int y :: .long x :: r => some (pc + 1, lv2, .long (x >>> (y.toInt64 &&& 63)) :: r, h)
    | _ => none)) = some (pc', l2, st', h2) := hs
  have key : ∀ x : Cfg, ((match (generalizing := false) st with
    | .int y :: .long x :: r => some (pc + 1, lv2, .long (x >>> (y.toInt64 &&& 63)) :: r, h)
    | _ => none)) = some x → x.2.1 = lv2 ∧ ((match (generalizing := false) st with
    | .int y :: .long x :: r => some (pc + 1, lv, .long (x >>> (y.toInt64 &&& 63)) :: r, h)
    | _ => none)) = some (x.1, lv, x.2.2.1, x.2.2.2) := by
    clear hs hu hu2 hsub
    intro x hx
    repeat' split at hx
    all_goals first | (cases hx; done) | (cases hx; exact ⟨rfl, rfl⟩) | (cases hx; refine ⟨rfl, ?_⟩; simp_all; done) | (cases hx; refine ⟨rfl, ?_⟩; simp_all; (intro hh; first | omega | exact absurd hh (Int32.not_lt.mpr (by assumption))))
  obtain ⟨e1, e2⟩ := key _ (show ((match (generalizing := false) st with
    | .int y :: .long x :: r => some (pc + 1, lv2, .long (x >>> (y.toInt64 &&& 63)) :: r, h)
    | _ => none)) = some (pc', l2, st', h2) by first | exact hs | simpa only [Bool.cond_eq_ite] using hs)
  replace e1 : l2 = lv2 := e1
  subst e1
  exact ⟨lv, e2, hu, hu2, hsub⟩
theorem zb_lcmp  {scr : Option (Nat × (Nat → Int32))} {own nL pc len : Nat} {ini : Bool} {lv lv2 l2 : LV} {st st' : List Value} {h h2 : Hp} {pc' : Nat} (hs : zStep scr own nL pc ini (.lcmp) len lv2 st h = some (pc', l2, st', h2)) (hu : uk lv) (hu2 : uk lv2) (hsub : Sub lv2 lv) : ∃ l1, zStep scr own nL pc ini (.lcmp) len lv st h = some (pc', l1, st', h2) ∧ uk l1 ∧ uk l2 ∧ Sub l2 l1 := by
  replace hs : ((match (generalizing := false) st with
    | .long y :: .long x :: r => some (pc + 1, lv2, .int (lg_cmp x y) :: r, h)
    | _ => none)) = some (pc', l2, st', h2) := hs
  have key : ∀ x : Cfg, ((match (generalizing := false) st with
    | .long y :: .long x :: r => some (pc + 1, lv2, .int (lg_cmp x y) :: r, h)
    | _ => none)) = some x → x.2.1 = lv2 ∧ ((match (generalizing := false) st with
    | .long y :: .long x :: r => some (pc + 1, lv, .int (lg_cmp x y) :: r, h)
    | _ => none)) = some (x.1, lv, x.2.2.1, x.2.2.2) := by
    clear hs hu hu2 hsub
    intro x hx
    repeat' split at hx
    all_goals first | (cases hx; done) | (cases hx; exact ⟨rfl, rfl⟩) | (cases hx; refine ⟨rfl, ?_⟩; simp_all; done) | (cases hx; refine ⟨rfl, ?_⟩; simp_all; (intro hh; first | omega | exact absurd hh (Int32.not_lt.mpr (by assumption))))
  obtain ⟨e1, e2⟩ := key _ (show ((match (generalizing := false) st with
    | .long y :: .long x :: r => some (pc + 1, lv2, .int (lg_cmp x y) :: r, h)
    | _ => none)) = some (pc', l2, st', h2) by first | exact hs | simpa only [Bool.cond_eq_ite] using hs)
  replace e1 : l2 = lv2 := e1
  subst e1
  exact ⟨lv, e2, hu, hu2, hsub⟩
theorem zb_goto (off : Int) {scr : Option (Nat × (Nat → Int32))} {own nL pc len : Nat} {ini : Bool} {lv lv2 l2 : LV} {st st' : List Value} {h h2 : Hp} {pc' : Nat} (hs : zStep scr own nL pc ini (.goto off) len lv2 st h = some (pc', l2, st', h2)) (hu : uk lv) (hu2 : uk lv2) (hsub : Sub lv2 lv) : ∃ l1, zStep scr own nL pc ini (.goto off) len lv st h = some (pc', l1, st', h2) ∧ uk l1 ∧ uk l2 ∧ Sub l2 l1 := by
  replace hs : ((match (generalizing := false) jmp pc off with
    | some t => some (t, lv2, st, h)
    | none => none)) = some (pc', l2, st', h2) := hs
  have key : ∀ x : Cfg, ((match (generalizing := false) jmp pc off with
    | some t => some (t, lv2, st, h)
    | none => none)) = some x → x.2.1 = lv2 ∧ ((match (generalizing := false) jmp pc off with
    | some t => some (t, lv, st, h)
    | none => none)) = some (x.1, lv, x.2.2.1, x.2.2.2) := by
    clear hs hu hu2 hsub
    intro x hx
    repeat' split at hx
    all_goals first | (cases hx; done) | (cases hx; exact ⟨rfl, rfl⟩) | (cases hx; refine ⟨rfl, ?_⟩; simp_all; done) | (cases hx; refine ⟨rfl, ?_⟩; simp_all; (intro hh; first | omega | exact absurd hh (Int32.not_lt.mpr (by assumption))))
  obtain ⟨e1, e2⟩ := key _ (show ((match (generalizing := false) jmp pc off with
    | some t => some (t, lv2, st, h)
    | none => none)) = some (pc', l2, st', h2) by first | exact hs | simpa only [Bool.cond_eq_ite] using hs)
  replace e1 : l2 = lv2 := e1
  subst e1
  exact ⟨lv, e2, hu, hu2, hsub⟩
theorem zb_if_icmp (c0 : ClassFile.Cond) (off : Int) {scr : Option (Nat × (Nat → Int32))} {own nL pc len : Nat} {ini : Bool} {lv lv2 l2 : LV} {st st' : List Value} {h h2 : Hp} {pc' : Nat} (hs : zStep scr own nL pc ini (.if_icmp c0 off) len lv2 st h = some (pc', l2, st', h2)) (hu : uk lv) (hu2 : uk lv2) (hsub : Sub lv2 lv) : ∃ l1, zStep scr own nL pc ini (.if_icmp c0 off) len lv st h = some (pc', l1, st', h2) ∧ uk l1 ∧ uk l2 ∧ Sub l2 l1 := by
  replace hs : ((match (generalizing := false) st with
    | .int y :: .int x :: r => (match (generalizing := false) jmp pc off with
      | some t => if cnd c0 x y = true then some (t, lv2, r, h) else some (pc + 3, lv2, r, h)
      | none => none)
    | _ => none)) = some (pc', l2, st', h2) := hs
  have key : ∀ x : Cfg, ((match (generalizing := false) st with
    | .int y :: .int x :: r => (match (generalizing := false) jmp pc off with
      | some t => if cnd c0 x y = true then some (t, lv2, r, h) else some (pc + 3, lv2, r, h)
      | none => none)
    | _ => none)) = some x → x.2.1 = lv2 ∧ ((match (generalizing := false) st with
    | .int y :: .int x :: r => (match (generalizing := false) jmp pc off with
      | some t => if cnd c0 x y = true then some (t, lv, r, h) else some (pc + 3, lv, r, h)
      | none => none)
    | _ => none)) = some (x.1, lv, x.2.2.1, x.2.2.2) := by
    clear hs hu hu2 hsub
    intro x hx
    repeat' split at hx
    all_goals first | (cases hx; done) | (cases hx; exact ⟨rfl, rfl⟩) | (cases hx; refine ⟨rfl, ?_⟩; simp_all; done) | (cases hx; refine ⟨rfl, ?_⟩; simp_all; (intro hh; first | omega | exact absurd hh (Int32.not_lt.mpr (by assumption))))
  obtain ⟨e1, e2⟩ := key _ (show ((match (generalizing := false) st with
    | .int y :: .int x :: r => (match (generalizing := false) jmp pc off with
      | some t => if cnd c0 x y = true then some (t, lv2, r, h) else some (pc + 3, lv2, r, h)
      | none => none)
    | _ => none)) = some (pc', l2, st', h2) by first | exact hs | simpa only [Bool.cond_eq_ite] using hs)
  replace e1 : l2 = lv2 := e1
  subst e1
  exact ⟨lv, e2, hu, hu2, hsub⟩
theorem zb_ifCond (c0 : ClassFile.Cond) (off : Int) {scr : Option (Nat × (Nat → Int32))} {own nL pc len : Nat} {ini : Bool} {lv lv2 l2 : LV} {st st' : List Value} {h h2 : Hp} {pc' : Nat} (hs : zStep scr own nL pc ini (.ifCond c0 off) len lv2 st h = some (pc', l2, st', h2)) (hu : uk lv) (hu2 : uk lv2) (hsub : Sub lv2 lv) : ∃ l1, zStep scr own nL pc ini (.ifCond c0 off) len lv st h = some (pc', l1, st', h2) ∧ uk l1 ∧ uk l2 ∧ Sub l2 l1 := by
  replace hs : ((match (generalizing := false) st with
    | .int x :: r => (match (generalizing := false) jmp pc off with
      | some t => if cnd c0 x 0 = true then some (t, lv2, r, h) else some (pc + 3, lv2, r, h)
      | none => none)
    | _ => none)) = some (pc', l2, st', h2) := hs
  have key : ∀ x : Cfg, ((match (generalizing := false) st with
    | .int x :: r => (match (generalizing := false) jmp pc off with
      | some t => if cnd c0 x 0 = true then some (t, lv2, r, h) else some (pc + 3, lv2, r, h)
      | none => none)
    | _ => none)) = some x → x.2.1 = lv2 ∧ ((match (generalizing := false) st with
    | .int x :: r => (match (generalizing := false) jmp pc off with
      | some t => if cnd c0 x 0 = true then some (t, lv, r, h) else some (pc + 3, lv, r, h)
      | none => none)
    | _ => none)) = some (x.1, lv, x.2.2.1, x.2.2.2) := by
    clear hs hu hu2 hsub
    intro x hx
    repeat' split at hx
    all_goals first | (cases hx; done) | (cases hx; exact ⟨rfl, rfl⟩) | (cases hx; refine ⟨rfl, ?_⟩; simp_all; done) | (cases hx; refine ⟨rfl, ?_⟩; simp_all; (intro hh; first | omega | exact absurd hh (Int32.not_lt.mpr (by assumption))))
  obtain ⟨e1, e2⟩ := key _ (show ((match (generalizing := false) st with
    | .int x :: r => (match (generalizing := false) jmp pc off with
      | some t => if cnd c0 x 0 = true then some (t, lv2, r, h) else some (pc + 3, lv2, r, h)
      | none => none)
    | _ => none)) = some (pc', l2, st', h2) by first | exact hs | simpa only [Bool.cond_eq_ite] using hs)
  replace e1 : l2 = lv2 := e1
  subst e1
  exact ⟨lv, e2, hu, hu2, hsub⟩
theorem zb_tableswitch (d lo hi : Int) (offs : Array Int) {scr : Option (Nat × (Nat → Int32))} {own nL pc len : Nat} {ini : Bool} {lv lv2 l2 : LV} {st st' : List Value} {h h2 : Hp} {pc' : Nat} (hs : zStep scr own nL pc ini (.tableswitch d lo hi offs) len lv2 st h = some (pc', l2, st', h2)) (hu : uk lv) (hu2 : uk lv2) (hsub : Sub lv2 lv) : ∃ l1, zStep scr own nL pc ini (.tableswitch d lo hi offs) len lv st h = some (pc', l1, st', h2) ∧ uk l1 ∧ uk l2 ∧ Sub l2 l1 := by
  replace hs : ((match (generalizing := false) st with
    | .int x :: r => if x.toInt < lo ∨ hi < x.toInt then (match (generalizing := false) jmp pc d with
        | some t => some (t, lv2, r, h)
        | none => none) else (match (generalizing := false) offs[(x.toInt - lo).toNat]? with
        | some off => (match (generalizing := false) jmp pc off with
          | some t => some (t, lv2, r, h)
          | none => none)
        | none => none)
    | _ => none)) = some (pc', l2, st', h2) := hs
  have key : ∀ x : Cfg, ((match (generalizing := false) st with
    | .int x :: r => if x.toInt < lo ∨ hi < x.toInt then (match (generalizing := false) jmp pc d with
        | some t => some (t, lv2, r, h)
        | none => none) else (match (generalizing := false) offs[(x.toInt - lo).toNat]? with
        | some off => (match (generalizing := false) jmp pc off with
          | some t => some (t, lv2, r, h)
          | none => none)
        | none => none)
    | _ => none)) = some x → x.2.1 = lv2 ∧ ((match (generalizing := false) st with
    | .int x :: r => if x.toInt < lo ∨ hi < x.toInt then (match (generalizing := false) jmp pc d with
        | some t => some (t, lv, r, h)
        | none => none) else (match (generalizing := false) offs[(x.toInt - lo).toNat]? with
        | some off => (match (generalizing := false) jmp pc off with
          | some t => some (t, lv, r, h)
          | none => none)
        | none => none)
    | _ => none)) = some (x.1, lv, x.2.2.1, x.2.2.2) := by
    clear hs hu hu2 hsub
    intro x hx
    repeat' split at hx
    all_goals first | (cases hx; done) | (cases hx; exact ⟨rfl, rfl⟩) | (cases hx; refine ⟨rfl, ?_⟩; simp_all; done) | (cases hx; refine ⟨rfl, ?_⟩; simp_all; (intro hh; first | omega | exact absurd hh (Int32.not_lt.mpr (by assumption))))
  obtain ⟨e1, e2⟩ := key _ (show ((match (generalizing := false) st with
    | .int x :: r => if x.toInt < lo ∨ hi < x.toInt then (match (generalizing := false) jmp pc d with
        | some t => some (t, lv2, r, h)
        | none => none) else (match (generalizing := false) offs[(x.toInt - lo).toNat]? with
        | some off => (match (generalizing := false) jmp pc off with
          | some t => some (t, lv2, r, h)
          | none => none)
        | none => none)
    | _ => none)) = some (pc', l2, st', h2) by first | exact hs | simpa only [Bool.cond_eq_ite] using hs)
  replace e1 : l2 = lv2 := e1
  subst e1
  exact ⟨lv, e2, hu, hu2, hsub⟩
theorem zb_lookupswitch (d : Int) (ps : Array (Int × Int)) {scr : Option (Nat × (Nat → Int32))} {own nL pc len : Nat} {ini : Bool} {lv lv2 l2 : LV} {st st' : List Value} {h h2 : Hp} {pc' : Nat} (hs : zStep scr own nL pc ini (.lookupswitch d ps) len lv2 st h = some (pc', l2, st', h2)) (hu : uk lv) (hu2 : uk lv2) (hsub : Sub lv2 lv) : ∃ l1, zStep scr own nL pc ini (.lookupswitch d ps) len lv st h = some (pc', l1, st', h2) ∧ uk l1 ∧ uk l2 ∧ Sub l2 l1 := by
  replace hs : ((match (generalizing := false) st with
    | .int x :: r => bif (ps.toList.zip (ps.toList.drop 1)).all (fun (a, next) => a.1 < next.1) then (match (generalizing := false) jmp pc (Op.lookupswitch.offset ps.toList d x.toInt) with
        | some t => some (t, lv2, r, h)
        | none => none) else none
    | _ => none)) = some (pc', l2, st', h2) := hs
  split at hs
  next x r =>
    cases hb1 : (ps.toList.zip (ps.toList.drop 1)).all (fun (a, next) => a.1 < next.1) with
    | false => rw [hb1] at hs; cases hs
    | true =>
      rw [hb1] at hs
      replace hs : (match (generalizing := false) jmp pc (Op.lookupswitch.offset ps.toList d x.toInt) with
        | some t => some (t, lv2, r, h)
        | none => none) = some (pc', l2, st', h2) := hs
      split at hs
      next t ht =>
        cases hs
        refine ⟨lv, ?_, hu, hu2, hsub⟩
        show (bif (ps.toList.zip (ps.toList.drop 1)).all (fun (a, next) => a.1 < next.1) then ((match (generalizing := false) jmp pc (Op.lookupswitch.offset ps.toList d x.toInt) with
          | some t => some (t, lv, st', h)
          | none => none) : Option Cfg) else none) = _
        rw [hb1, ht]
        rfl
      next => cases hs
  next => cases hs
theorem zb_getfield (ix : Nat) {scr : Option (Nat × (Nat → Int32))} {own nL pc len : Nat} {ini : Bool} {lv lv2 l2 : LV} {st st' : List Value} {h h2 : Hp} {pc' : Nat} (hs : zStep scr own nL pc ini (.getfield ix) len lv2 st h = some (pc', l2, st', h2)) (hu : uk lv) (hu2 : uk lv2) (hsub : Sub lv2 lv) : ∃ l1, zStep scr own nL pc ini (.getfield ix) len lv st h = some (pc', l1, st', h2) ∧ uk l1 ∧ uk l2 ∧ Sub l2 l1 := by
  replace hs : ((match (generalizing := false) st with
    | .ref i :: r => (match (generalizing := false) lkp (poolOf own) ix with
      | some (0, ci, k, _) => bif isO h i ci && Nat.blt k (nF ci) then some (pc + 3, lv2, (bif isR ci k then rfV (h.2.2 i k) else .int (h.2.1 i k)) :: r, h) else none
      | some (1, ci, k, _) => bif isO h i ci && Nat.blt k (nF ci) then some (pc + 3, lv2, (bif isR ci k then rfV (h.2.2 i k) else .int (h.2.1 i k)) :: r, h) else none
      | _ => none)
    | _ => none)) = some (pc', l2, st', h2) := hs
  simp only [Bool.cond_eq_ite] at hs
  have key : ∀ x : Cfg, ((match (generalizing := false) st with
    | .ref i :: r => (match (generalizing := false) lkp (poolOf own) ix with
      | some (0, ci, k, _) => bif isO h i ci && Nat.blt k (nF ci) then some (pc + 3, lv2, (bif isR ci k then rfV (h.2.2 i k) else .int (h.2.1 i k)) :: r, h) else none
      | some (1, ci, k, _) => bif isO h i ci && Nat.blt k (nF ci) then some (pc + 3, lv2, (bif isR ci k then rfV (h.2.2 i k) else .int (h.2.1 i k)) :: r, h) else none
      | _ => none)
    | _ => none)) = some x → x.2.1 = lv2 ∧ ((match (generalizing := false) st with
    | .ref i :: r => (match (generalizing := false) lkp (poolOf own) ix with
      | some (0, ci, k, _) => bif isO h i ci && Nat.blt k (nF ci) then some (pc + 3, lv, (bif isR ci k then rfV (h.2.2 i k) else .int (h.2.1 i k)) :: r, h) else none
      | some (1, ci, k, _) => bif isO h i ci && Nat.blt k (nF ci) then some (pc + 3, lv, (bif isR ci k then rfV (h.2.2 i k) else .int (h.2.1 i k)) :: r, h) else none
      | _ => none)
    | _ => none)) = some (x.1, lv, x.2.2.1, x.2.2.2) := by
    clear hs hu hu2 hsub
    intro x hx
    simp only [Bool.cond_eq_ite] at hx ⊢
    repeat' split at hx
    all_goals first | (cases hx; done) | (cases hx; exact ⟨rfl, rfl⟩) | (cases hx; refine ⟨rfl, ?_⟩; simp_all; done) | (cases hx; refine ⟨rfl, ?_⟩; simp_all; (intro hh; first | omega | exact absurd hh (Int32.not_lt.mpr (by assumption))))
  simp only [← Bool.cond_eq_ite] at hs
  obtain ⟨e1, e2⟩ := key _ (show ((match (generalizing := false) st with
    | .ref i :: r => (match (generalizing := false) lkp (poolOf own) ix with
      | some (0, ci, k, _) => bif isO h i ci && Nat.blt k (nF ci) then some (pc + 3, lv2, (bif isR ci k then rfV (h.2.2 i k) else .int (h.2.1 i k)) :: r, h) else none
      | some (1, ci, k, _) => bif isO h i ci && Nat.blt k (nF ci) then some (pc + 3, lv2, (bif isR ci k then rfV (h.2.2 i k) else .int (h.2.1 i k)) :: r, h) else none
      | _ => none)
    | _ => none)) = some (pc', l2, st', h2) by first | exact hs | simpa only [Bool.cond_eq_ite] using hs)
  replace e1 : l2 = lv2 := e1
  subst e1
  exact ⟨lv, e2, hu, hu2, hsub⟩
theorem zb_putfield (ix : Nat) {scr : Option (Nat × (Nat → Int32))} {own nL pc len : Nat} {ini : Bool} {lv lv2 l2 : LV} {st st' : List Value} {h h2 : Hp} {pc' : Nat} (hs : zStep scr own nL pc ini (.putfield ix) len lv2 st h = some (pc', l2, st', h2)) (hu : uk lv) (hu2 : uk lv2) (hsub : Sub lv2 lv) : ∃ l1, zStep scr own nL pc ini (.putfield ix) len lv st h = some (pc', l1, st', h2) ∧ uk l1 ∧ uk l2 ∧ Sub l2 l1 := by
  replace hs : ((match (generalizing := false) st with
    | .int x :: .ref i :: r => (match (generalizing := false) lkp (poolOf own) ix with
      | some (0, ci, k, _) => bif isO h i ci && Nat.blt k (nF ci) && !isR ci k && !finF ci k then some (pc + 3, lv2, r, (h.1, up2 h.2.1 i k x, h.2.2)) else none
      | some (1, ci, k, _) => bif isO h i ci && Nat.blt k (nF ci) && !isR ci k && !finF ci k then some (pc + 3, lv2, r, (h.1, up2 h.2.1 i k x, h.2.2)) else none
      | _ => none)
    | .ref x :: .ref i :: r => (match (generalizing := false) lkp (poolOf own) ix with
      | some (0, ci, k, _) => bif isO h i ci && Nat.blt k (nF ci) && isR ci k && (!finF ci k || (ini && Nat.beq own ci)) then some (pc + 3, lv2, r, (h.1, h.2.1, up2 h.2.2 i k (some x))) else none
      | _ => none)
    | _ => none)) = some (pc', l2, st', h2) := hs
  simp only [Bool.cond_eq_ite] at hs
  have key : ∀ x : Cfg, ((match (generalizing := false) st with
    | .int x :: .ref i :: r => (match (generalizing := false) lkp (poolOf own) ix with
      | some (0, ci, k, _) => bif isO h i ci && Nat.blt k (nF ci) && !isR ci k && !finF ci k then some (pc + 3, lv2, r, (h.1, up2 h.2.1 i k x, h.2.2)) else none
      | some (1, ci, k, _) => bif isO h i ci && Nat.blt k (nF ci) && !isR ci k && !finF ci k then some (pc + 3, lv2, r, (h.1, up2 h.2.1 i k x, h.2.2)) else none
      | _ => none)
    | .ref x :: .ref i :: r => (match (generalizing := false) lkp (poolOf own) ix with
      | some (0, ci, k, _) => bif isO h i ci && Nat.blt k (nF ci) && isR ci k && (!finF ci k || (ini && Nat.beq own ci)) then some (pc + 3, lv2, r, (h.1, h.2.1, up2 h.2.2 i k (some x))) else none
      | _ => none)
    | _ => none)) = some x → x.2.1 = lv2 ∧ ((match (generalizing := false) st with
    | .int x :: .ref i :: r => (match (generalizing := false) lkp (poolOf own) ix with
      | some (0, ci, k, _) => bif isO h i ci && Nat.blt k (nF ci) && !isR ci k && !finF ci k then some (pc + 3, lv, r, (h.1, up2 h.2.1 i k x, h.2.2)) else none
      | some (1, ci, k, _) => bif isO h i ci && Nat.blt k (nF ci) && !isR ci k && !finF ci k then some (pc + 3, lv, r, (h.1, up2 h.2.1 i k x, h.2.2)) else none
      | _ => none)
    | .ref x :: .ref i :: r => (match (generalizing := false) lkp (poolOf own) ix with
      | some (0, ci, k, _) => bif isO h i ci && Nat.blt k (nF ci) && isR ci k && (!finF ci k || (ini && Nat.beq own ci)) then some (pc + 3, lv, r, (h.1, h.2.1, up2 h.2.2 i k (some x))) else none
      | _ => none)
    | _ => none)) = some (x.1, lv, x.2.2.1, x.2.2.2) := by
    clear hs hu hu2 hsub
    intro x hx
    simp only [Bool.cond_eq_ite] at hx ⊢
    repeat' split at hx
    all_goals first | (cases hx; done) | (cases hx; exact ⟨rfl, rfl⟩) | (cases hx; refine ⟨rfl, ?_⟩; simp_all; done) | (cases hx; refine ⟨rfl, ?_⟩; simp_all; (intro hh; first | omega | exact absurd hh (Int32.not_lt.mpr (by assumption))))
  simp only [← Bool.cond_eq_ite] at hs
  obtain ⟨e1, e2⟩ := key _ (show ((match (generalizing := false) st with
    | .int x :: .ref i :: r => (match (generalizing := false) lkp (poolOf own) ix with
      | some (0, ci, k, _) => bif isO h i ci && Nat.blt k (nF ci) && !isR ci k && !finF ci k then some (pc + 3, lv2, r, (h.1, up2 h.2.1 i k x, h.2.2)) else none
      | some (1, ci, k, _) => bif isO h i ci && Nat.blt k (nF ci) && !isR ci k && !finF ci k then some (pc + 3, lv2, r, (h.1, up2 h.2.1 i k x, h.2.2)) else none
      | _ => none)
    | .ref x :: .ref i :: r => (match (generalizing := false) lkp (poolOf own) ix with
      | some (0, ci, k, _) => bif isO h i ci && Nat.blt k (nF ci) && isR ci k && (!finF ci k || (ini && Nat.beq own ci)) then some (pc + 3, lv2, r, (h.1, h.2.1, up2 h.2.2 i k (some x))) else none
      | _ => none)
    | _ => none)) = some (pc', l2, st', h2) by first | exact hs | simpa only [Bool.cond_eq_ite] using hs)
  replace e1 : l2 = lv2 := e1
  subst e1
  exact ⟨lv, e2, hu, hu2, hsub⟩
theorem zb_iaload  {scr : Option (Nat × (Nat → Int32))} {own nL pc len : Nat} {ini : Bool} {lv lv2 l2 : LV} {st st' : List Value} {h h2 : Hp} {pc' : Nat} (hs : zStep scr own nL pc ini (.iaload) len lv2 st h = some (pc', l2, st', h2)) (hu : uk lv) (hu2 : uk lv2) (hsub : Sub lv2 lv) : ∃ l1, zStep scr own nL pc ini (.iaload) len lv st h = some (pc', l1, st', h2) ∧ uk l1 ∧ uk l2 ∧ Sub l2 l1 := by
  replace hs : ((match (generalizing := false) st with
    | .int j :: .ref i :: r => bif Nat.beq i sId then (match (generalizing := false) scr with
      | some (L, xs) => bif inB j L then some (pc + 1, lv2, .int (xs j.toNatClampNeg) :: r, h) else none
      | none => none) else (match (generalizing := false) arrL h i 0 with
      | some n => bif inB j n then some (pc + 1, lv2, .int (h.2.1 i j.toNatClampNeg) :: r, h) else none
      | none => none)
    | _ => none)) = some (pc', l2, st', h2) := hs
  simp only [Bool.cond_eq_ite] at hs
  have key : ∀ x : Cfg, ((match (generalizing := false) st with
    | .int j :: .ref i :: r => bif Nat.beq i sId then (match (generalizing := false) scr with
      | some (L, xs) => bif inB j L then some (pc + 1, lv2, .int (xs j.toNatClampNeg) :: r, h) else none
      | none => none) else (match (generalizing := false) arrL h i 0 with
      | some n => bif inB j n then some (pc + 1, lv2, .int (h.2.1 i j.toNatClampNeg) :: r, h) else none
      | none => none)
    | _ => none)) = some x → x.2.1 = lv2 ∧ ((match (generalizing := false) st with
    | .int j :: .ref i :: r => bif Nat.beq i sId then (match (generalizing := false) scr with
      | some (L, xs) => bif inB j L then some (pc + 1, lv, .int (xs j.toNatClampNeg) :: r, h) else none
      | none => none) else (match (generalizing := false) arrL h i 0 with
      | some n => bif inB j n then some (pc + 1, lv, .int (h.2.1 i j.toNatClampNeg) :: r, h) else none
      | none => none)
    | _ => none)) = some (x.1, lv, x.2.2.1, x.2.2.2) := by
    clear hs hu hu2 hsub
    intro x hx
    simp only [Bool.cond_eq_ite] at hx ⊢
    repeat' split at hx
    all_goals first | (cases hx; done) | (cases hx; exact ⟨rfl, rfl⟩) | (cases hx; refine ⟨rfl, ?_⟩; simp_all; done) | (cases hx; refine ⟨rfl, ?_⟩; simp_all; (intro hh; first | omega | exact absurd hh (Int32.not_lt.mpr (by assumption))))
  simp only [← Bool.cond_eq_ite] at hs
  obtain ⟨e1, e2⟩ := key _ (show ((match (generalizing := false) st with
    | .int j :: .ref i :: r => bif Nat.beq i sId then (match (generalizing := false) scr with
      | some (L, xs) => bif inB j L then some (pc + 1, lv2, .int (xs j.toNatClampNeg) :: r, h) else none
      | none => none) else (match (generalizing := false) arrL h i 0 with
      | some n => bif inB j n then some (pc + 1, lv2, .int (h.2.1 i j.toNatClampNeg) :: r, h) else none
      | none => none)
    | _ => none)) = some (pc', l2, st', h2) by first | exact hs | simpa only [Bool.cond_eq_ite] using hs)
  replace e1 : l2 = lv2 := e1
  subst e1
  exact ⟨lv, e2, hu, hu2, hsub⟩
theorem zb_baload  {scr : Option (Nat × (Nat → Int32))} {own nL pc len : Nat} {ini : Bool} {lv lv2 l2 : LV} {st st' : List Value} {h h2 : Hp} {pc' : Nat} (hs : zStep scr own nL pc ini (.baload) len lv2 st h = some (pc', l2, st', h2)) (hu : uk lv) (hu2 : uk lv2) (hsub : Sub lv2 lv) : ∃ l1, zStep scr own nL pc ini (.baload) len lv st h = some (pc', l1, st', h2) ∧ uk l1 ∧ uk l2 ∧ Sub l2 l1 := by
  replace hs : ((match (generalizing := false) st with
    | .int j :: .ref i :: r => (match (generalizing := false) arrL h i 1 with
      | some n => bif inB j n then some (pc + 1, lv2, .int (h.2.1 i j.toNatClampNeg) :: r, h) else none
      | none => none)
    | _ => none)) = some (pc', l2, st', h2) := hs
  simp only [Bool.cond_eq_ite] at hs
  have key : ∀ x : Cfg, ((match (generalizing := false) st with
    | .int j :: .ref i :: r => (match (generalizing := false) arrL h i 1 with
      | some n => bif inB j n then some (pc + 1, lv2, .int (h.2.1 i j.toNatClampNeg) :: r, h) else none
      | none => none)
    | _ => none)) = some x → x.2.1 = lv2 ∧ ((match (generalizing := false) st with
    | .int j :: .ref i :: r => (match (generalizing := false) arrL h i 1 with
      | some n => bif inB j n then some (pc + 1, lv, .int (h.2.1 i j.toNatClampNeg) :: r, h) else none
      | none => none)
    | _ => none)) = some (x.1, lv, x.2.2.1, x.2.2.2) := by
    clear hs hu hu2 hsub
    intro x hx
    simp only [Bool.cond_eq_ite] at hx ⊢
    repeat' split at hx
    all_goals first | (cases hx; done) | (cases hx; exact ⟨rfl, rfl⟩) | (cases hx; refine ⟨rfl, ?_⟩; simp_all; done) | (cases hx; refine ⟨rfl, ?_⟩; simp_all; (intro hh; first | omega | exact absurd hh (Int32.not_lt.mpr (by assumption))))
  simp only [← Bool.cond_eq_ite] at hs
  obtain ⟨e1, e2⟩ := key _ (show ((match (generalizing := false) st with
    | .int j :: .ref i :: r => (match (generalizing := false) arrL h i 1 with
      | some n => bif inB j n then some (pc + 1, lv2, .int (h.2.1 i j.toNatClampNeg) :: r, h) else none
      | none => none)
    | _ => none)) = some (pc', l2, st', h2) by first | exact hs | simpa only [Bool.cond_eq_ite] using hs)
  replace e1 : l2 = lv2 := e1
  subst e1
  exact ⟨lv, e2, hu, hu2, hsub⟩
theorem zb_aaload  {scr : Option (Nat × (Nat → Int32))} {own nL pc len : Nat} {ini : Bool} {lv lv2 l2 : LV} {st st' : List Value} {h h2 : Hp} {pc' : Nat} (hs : zStep scr own nL pc ini (.aaload) len lv2 st h = some (pc', l2, st', h2)) (hu : uk lv) (hu2 : uk lv2) (hsub : Sub lv2 lv) : ∃ l1, zStep scr own nL pc ini (.aaload) len lv st h = some (pc', l1, st', h2) ∧ uk l1 ∧ uk l2 ∧ Sub l2 l1 := by
  replace hs : ((match (generalizing := false) st with
    | .int j :: .ref i :: r => (match (generalizing := false) arrL h i 2 with
      | some n => bif inB j n then some (pc + 1, lv2, rfV (h.2.2 i j.toNatClampNeg) :: r, h) else none
      | none => none)
    | _ => none)) = some (pc', l2, st', h2) := hs
  simp only [Bool.cond_eq_ite] at hs
  have key : ∀ x : Cfg, ((match (generalizing := false) st with
    | .int j :: .ref i :: r => (match (generalizing := false) arrL h i 2 with
      | some n => bif inB j n then some (pc + 1, lv2, rfV (h.2.2 i j.toNatClampNeg) :: r, h) else none
      | none => none)
    | _ => none)) = some x → x.2.1 = lv2 ∧ ((match (generalizing := false) st with
    | .int j :: .ref i :: r => (match (generalizing := false) arrL h i 2 with
      | some n => bif inB j n then some (pc + 1, lv, rfV (h.2.2 i j.toNatClampNeg) :: r, h) else none
      | none => none)
    | _ => none)) = some (x.1, lv, x.2.2.1, x.2.2.2) := by
    clear hs hu hu2 hsub
    intro x hx
    simp only [Bool.cond_eq_ite] at hx ⊢
    repeat' split at hx
    all_goals first | (cases hx; done) | (cases hx; exact ⟨rfl, rfl⟩) | (cases hx; refine ⟨rfl, ?_⟩; simp_all; done) | (cases hx; refine ⟨rfl, ?_⟩; simp_all; (intro hh; first | omega | exact absurd hh (Int32.not_lt.mpr (by assumption))))
  simp only [← Bool.cond_eq_ite] at hs
  obtain ⟨e1, e2⟩ := key _ (show ((match (generalizing := false) st with
    | .int j :: .ref i :: r => (match (generalizing := false) arrL h i 2 with
      | some n => bif inB j n then some (pc + 1, lv2, rfV (h.2.2 i j.toNatClampNeg) :: r, h) else none
      | none => none)
    | _ => none)) = some (pc', l2, st', h2) by first | exact hs | simpa only [Bool.cond_eq_ite] using hs)
  replace e1 : l2 = lv2 := e1
  subst e1
  exact ⟨lv, e2, hu, hu2, hsub⟩
theorem zb_iastore  {scr : Option (Nat × (Nat → Int32))} {own nL pc len : Nat} {ini : Bool} {lv lv2 l2 : LV} {st st' : List Value} {h h2 : Hp} {pc' : Nat} (hs : zStep scr own nL pc ini (.iastore) len lv2 st h = some (pc', l2, st', h2)) (hu : uk lv) (hu2 : uk lv2) (hsub : Sub lv2 lv) : ∃ l1, zStep scr own nL pc ini (.iastore) len lv st h = some (pc', l1, st', h2) ∧ uk l1 ∧ uk l2 ∧ Sub l2 l1 := by
  replace hs : ((match (generalizing := false) st with
    | .int x :: .int j :: .ref i :: r => (match (generalizing := false) arrL h i 0 with
      | some n => bif inB j n then some (pc + 1, lv2, r, (h.1, up2 h.2.1 i j.toNatClampNeg x, h.2.2)) else none
      | none => none)
    | _ => none)) = some (pc', l2, st', h2) := hs
  simp only [Bool.cond_eq_ite] at hs
  have key : ∀ x : Cfg, ((match (generalizing := false) st with
    | .int x :: .int j :: .ref i :: r => (match (generalizing := false) arrL h i 0 with
      | some n => bif inB j n then some (pc + 1, lv2, r, (h.1, up2 h.2.1 i j.toNatClampNeg x, h.2.2)) else none
      | none => none)
    | _ => none)) = some x → x.2.1 = lv2 ∧ ((match (generalizing := false) st with
    | .int x :: .int j :: .ref i :: r => (match (generalizing := false) arrL h i 0 with
      | some n => bif inB j n then some (pc + 1, lv, r, (h.1, up2 h.2.1 i j.toNatClampNeg x, h.2.2)) else none
      | none => none)
    | _ => none)) = some (x.1, lv, x.2.2.1, x.2.2.2) := by
    clear hs hu hu2 hsub
    intro x hx
    simp only [Bool.cond_eq_ite] at hx ⊢
    repeat' split at hx
    all_goals first | (cases hx; done) | (cases hx; exact ⟨rfl, rfl⟩) | (cases hx; refine ⟨rfl, ?_⟩; simp_all; done) | (cases hx; refine ⟨rfl, ?_⟩; simp_all; (intro hh; first | omega | exact absurd hh (Int32.not_lt.mpr (by assumption))))
  simp only [← Bool.cond_eq_ite] at hs
  obtain ⟨e1, e2⟩ := key _ (show ((match (generalizing := false) st with
    | .int x :: .int j :: .ref i :: r => (match (generalizing := false) arrL h i 0 with
      | some n => bif inB j n then some (pc + 1, lv2, r, (h.1, up2 h.2.1 i j.toNatClampNeg x, h.2.2)) else none
      | none => none)
    | _ => none)) = some (pc', l2, st', h2) by first | exact hs | simpa only [Bool.cond_eq_ite] using hs)
  replace e1 : l2 = lv2 := e1
  subst e1
  exact ⟨lv, e2, hu, hu2, hsub⟩
theorem zb_bastore  {scr : Option (Nat × (Nat → Int32))} {own nL pc len : Nat} {ini : Bool} {lv lv2 l2 : LV} {st st' : List Value} {h h2 : Hp} {pc' : Nat} (hs : zStep scr own nL pc ini (.bastore) len lv2 st h = some (pc', l2, st', h2)) (hu : uk lv) (hu2 : uk lv2) (hsub : Sub lv2 lv) : ∃ l1, zStep scr own nL pc ini (.bastore) len lv st h = some (pc', l1, st', h2) ∧ uk l1 ∧ uk l2 ∧ Sub l2 l1 := by
  replace hs : ((match (generalizing := false) st with
    | .int x :: .int j :: .ref i :: r => (match (generalizing := false) arrL h i 1 with
      | some n => bif inB j n then some (pc + 1, lv2, r, (h.1, up2 h.2.1 i j.toNatClampNeg (vp_nar .byte x), h.2.2)) else none
      | none => none)
    | _ => none)) = some (pc', l2, st', h2) := hs
  simp only [Bool.cond_eq_ite] at hs
  have key : ∀ x : Cfg, ((match (generalizing := false) st with
    | .int x :: .int j :: .ref i :: r => (match (generalizing := false) arrL h i 1 with
      | some n => bif inB j n then some (pc + 1, lv2, r, (h.1, up2 h.2.1 i j.toNatClampNeg (vp_nar .byte x), h.2.2)) else none
      | none => none)
    | _ => none)) = some x → x.2.1 = lv2 ∧ ((match (generalizing := false) st with
    | .int x :: .int j :: .ref i :: r => (match (generalizing := false) arrL h i 1 with
      | some n => bif inB j n then some (pc + 1, lv, r, (h.1, up2 h.2.1 i j.toNatClampNeg (vp_nar .byte x), h.2.2)) else none
      | none => none)
    | _ => none)) = some (x.1, lv, x.2.2.1, x.2.2.2) := by
    clear hs hu hu2 hsub
    intro x hx
    simp only [Bool.cond_eq_ite] at hx ⊢
    repeat' split at hx
    all_goals first | (cases hx; done) | (cases hx; exact ⟨rfl, rfl⟩) | (cases hx; refine ⟨rfl, ?_⟩; simp_all; done) | (cases hx; refine ⟨rfl, ?_⟩; simp_all; (intro hh; first | omega | exact absurd hh (Int32.not_lt.mpr (by assumption))))
  simp only [← Bool.cond_eq_ite] at hs
  obtain ⟨e1, e2⟩ := key _ (show ((match (generalizing := false) st with
    | .int x :: .int j :: .ref i :: r => (match (generalizing := false) arrL h i 1 with
      | some n => bif inB j n then some (pc + 1, lv2, r, (h.1, up2 h.2.1 i j.toNatClampNeg (vp_nar .byte x), h.2.2)) else none
      | none => none)
    | _ => none)) = some (pc', l2, st', h2) by first | exact hs | simpa only [Bool.cond_eq_ite] using hs)
  replace e1 : l2 = lv2 := e1
  subst e1
  exact ⟨lv, e2, hu, hu2, hsub⟩
theorem zb_aastore  {scr : Option (Nat × (Nat → Int32))} {own nL pc len : Nat} {ini : Bool} {lv lv2 l2 : LV} {st st' : List Value} {h h2 : Hp} {pc' : Nat} (hs : zStep scr own nL pc ini (.aastore) len lv2 st h = some (pc', l2, st', h2)) (hu : uk lv) (hu2 : uk lv2) (hsub : Sub lv2 lv) : ∃ l1, zStep scr own nL pc ini (.aastore) len lv st h = some (pc', l1, st', h2) ∧ uk l1 ∧ uk l2 ∧ Sub l2 l1 := by
  replace hs : ((match (generalizing := false) st with
    | .ref x :: .int j :: .ref i :: r => (match (generalizing := false) arrL h i 2 with
      | some n => bif inB j n && isO h x 5 then some (pc + 1, lv2, r, (h.1, h.2.1, up2 h.2.2 i j.toNatClampNeg (some x))) else none
      | none => none)
    | _ => none)) = some (pc', l2, st', h2) := hs
  simp only [Bool.cond_eq_ite] at hs
  have key : ∀ x : Cfg, ((match (generalizing := false) st with
    | .ref x :: .int j :: .ref i :: r => (match (generalizing := false) arrL h i 2 with
      | some n => bif inB j n && isO h x 5 then some (pc + 1, lv2, r, (h.1, h.2.1, up2 h.2.2 i j.toNatClampNeg (some x))) else none
      | none => none)
    | _ => none)) = some x → x.2.1 = lv2 ∧ ((match (generalizing := false) st with
    | .ref x :: .int j :: .ref i :: r => (match (generalizing := false) arrL h i 2 with
      | some n => bif inB j n && isO h x 5 then some (pc + 1, lv, r, (h.1, h.2.1, up2 h.2.2 i j.toNatClampNeg (some x))) else none
      | none => none)
    | _ => none)) = some (x.1, lv, x.2.2.1, x.2.2.2) := by
    clear hs hu hu2 hsub
    intro x hx
    simp only [Bool.cond_eq_ite] at hx ⊢
    repeat' split at hx
    all_goals first | (cases hx; done) | (cases hx; exact ⟨rfl, rfl⟩) | (cases hx; refine ⟨rfl, ?_⟩; simp_all; done) | (cases hx; refine ⟨rfl, ?_⟩; simp_all; (intro hh; first | omega | exact absurd hh (Int32.not_lt.mpr (by assumption))))
  simp only [← Bool.cond_eq_ite] at hs
  obtain ⟨e1, e2⟩ := key _ (show ((match (generalizing := false) st with
    | .ref x :: .int j :: .ref i :: r => (match (generalizing := false) arrL h i 2 with
      | some n => bif inB j n && isO h x 5 then some (pc + 1, lv2, r, (h.1, h.2.1, up2 h.2.2 i j.toNatClampNeg (some x))) else none
      | none => none)
    | _ => none)) = some (pc', l2, st', h2) by first | exact hs | simpa only [Bool.cond_eq_ite] using hs)
  replace e1 : l2 = lv2 := e1
  subst e1
  exact ⟨lv, e2, hu, hu2, hsub⟩
theorem zb_arraylength  {scr : Option (Nat × (Nat → Int32))} {own nL pc len : Nat} {ini : Bool} {lv lv2 l2 : LV} {st st' : List Value} {h h2 : Hp} {pc' : Nat} (hs : zStep scr own nL pc ini (.arraylength) len lv2 st h = some (pc', l2, st', h2)) (hu : uk lv) (hu2 : uk lv2) (hsub : Sub lv2 lv) : ∃ l1, zStep scr own nL pc ini (.arraylength) len lv st h = some (pc', l1, st', h2) ∧ uk l1 ∧ uk l2 ∧ Sub l2 l1 := by
  replace hs : ((match (generalizing := false) st with
    | .ref i :: r => bif Nat.beq i sId then (match (generalizing := false) scr with
      | some (L, _) => some (pc + 1, lv2, .int (Int32.ofNat L) :: r, h)
      | none => none) else (match (generalizing := false) arrL h i 0 with
      | some n => some (pc + 1, lv2, .int (Int32.ofNat n) :: r, h)
      | none => none)
    | _ => none)) = some (pc', l2, st', h2) := hs
  simp only [Bool.cond_eq_ite] at hs
  have key : ∀ x : Cfg, ((match (generalizing := false) st with
    | .ref i :: r => bif Nat.beq i sId then (match (generalizing := false) scr with
      | some (L, _) => some (pc + 1, lv2, .int (Int32.ofNat L) :: r, h)
      | none => none) else (match (generalizing := false) arrL h i 0 with
      | some n => some (pc + 1, lv2, .int (Int32.ofNat n) :: r, h)
      | none => none)
    | _ => none)) = some x → x.2.1 = lv2 ∧ ((match (generalizing := false) st with
    | .ref i :: r => bif Nat.beq i sId then (match (generalizing := false) scr with
      | some (L, _) => some (pc + 1, lv, .int (Int32.ofNat L) :: r, h)
      | none => none) else (match (generalizing := false) arrL h i 0 with
      | some n => some (pc + 1, lv, .int (Int32.ofNat n) :: r, h)
      | none => none)
    | _ => none)) = some (x.1, lv, x.2.2.1, x.2.2.2) := by
    clear hs hu hu2 hsub
    intro x hx
    simp only [Bool.cond_eq_ite] at hx ⊢
    repeat' split at hx
    all_goals first | (cases hx; done) | (cases hx; exact ⟨rfl, rfl⟩) | (cases hx; refine ⟨rfl, ?_⟩; simp_all; done) | (cases hx; refine ⟨rfl, ?_⟩; simp_all; (intro hh; first | omega | exact absurd hh (Int32.not_lt.mpr (by assumption))))
  simp only [← Bool.cond_eq_ite] at hs
  obtain ⟨e1, e2⟩ := key _ (show ((match (generalizing := false) st with
    | .ref i :: r => bif Nat.beq i sId then (match (generalizing := false) scr with
      | some (L, _) => some (pc + 1, lv2, .int (Int32.ofNat L) :: r, h)
      | none => none) else (match (generalizing := false) arrL h i 0 with
      | some n => some (pc + 1, lv2, .int (Int32.ofNat n) :: r, h)
      | none => none)
    | _ => none)) = some (pc', l2, st', h2) by first | exact hs | simpa only [Bool.cond_eq_ite] using hs)
  replace e1 : l2 = lv2 := e1
  subst e1
  exact ⟨lv, e2, hu, hu2, hsub⟩
theorem zb_new (ix : Nat) {scr : Option (Nat × (Nat → Int32))} {own nL pc len : Nat} {ini : Bool} {lv lv2 l2 : LV} {st st' : List Value} {h h2 : Hp} {pc' : Nat} (hs : zStep scr own nL pc ini (.new ix) len lv2 st h = some (pc', l2, st', h2)) (hu : uk lv) (hu2 : uk lv2) (hsub : Sub lv2 lv) : ∃ l1, zStep scr own nL pc ini (.new ix) len lv st h = some (pc', l1, st', h2) ∧ uk l1 ∧ uk l2 ∧ Sub l2 l1 := by
  replace hs : ((match (generalizing := false) lkp (poolOf own) ix with
    | some (11, ci, _, _) => (match (generalizing := false) shp[h.1]? with
      | some (.inl c) => bif Nat.beq c ci then some (pc + 3, lv2, .ref h.1 :: st, (h.1 + 1, (fun a => if a = h.1 then (fun _ => 0) else h.2.1 a), (fun a => if a = h.1 then (fun _ => none) else h.2.2 a))) else none
      | _ => none)
    | _ => none)) = some (pc', l2, st', h2) := hs
  simp only [Bool.cond_eq_ite] at hs
  have key : ∀ x : Cfg, ((match (generalizing := false) lkp (poolOf own) ix with
    | some (11, ci, _, _) => (match (generalizing := false) shp[h.1]? with
      | some (.inl c) => bif Nat.beq c ci then some (pc + 3, lv2, .ref h.1 :: st, (h.1 + 1, (fun a => if a = h.1 then (fun _ => 0) else h.2.1 a), (fun a => if a = h.1 then (fun _ => none) else h.2.2 a))) else none
      | _ => none)
    | _ => none)) = some x → x.2.1 = lv2 ∧ ((match (generalizing := false) lkp (poolOf own) ix with
    | some (11, ci, _, _) => (match (generalizing := false) shp[h.1]? with
      | some (.inl c) => bif Nat.beq c ci then some (pc + 3, lv, .ref h.1 :: st, (h.1 + 1, (fun a => if a = h.1 then (fun _ => 0) else h.2.1 a), (fun a => if a = h.1 then (fun _ => none) else h.2.2 a))) else none
      | _ => none)
    | _ => none)) = some (x.1, lv, x.2.2.1, x.2.2.2) := by
    clear hs hu hu2 hsub
    intro x hx
    simp only [Bool.cond_eq_ite] at hx ⊢
    repeat' split at hx
    all_goals first | (cases hx; done) | (cases hx; exact ⟨rfl, rfl⟩) | (cases hx; refine ⟨rfl, ?_⟩; simp_all; done) | (cases hx; refine ⟨rfl, ?_⟩; simp_all; (intro hh; first | omega | exact absurd hh (Int32.not_lt.mpr (by assumption))))
  simp only [← Bool.cond_eq_ite] at hs
  obtain ⟨e1, e2⟩ := key _ (show ((match (generalizing := false) lkp (poolOf own) ix with
    | some (11, ci, _, _) => (match (generalizing := false) shp[h.1]? with
      | some (.inl c) => bif Nat.beq c ci then some (pc + 3, lv2, .ref h.1 :: st, (h.1 + 1, (fun a => if a = h.1 then (fun _ => 0) else h.2.1 a), (fun a => if a = h.1 then (fun _ => none) else h.2.2 a))) else none
      | _ => none)
    | _ => none)) = some (pc', l2, st', h2) by first | exact hs | simpa only [Bool.cond_eq_ite] using hs)
  replace e1 : l2 = lv2 := e1
  subst e1
  exact ⟨lv, e2, hu, hu2, hsub⟩
theorem zb_newarray (ty : ArrayType) {scr : Option (Nat × (Nat → Int32))} {own nL pc len : Nat} {ini : Bool} {lv lv2 l2 : LV} {st st' : List Value} {h h2 : Hp} {pc' : Nat} (hs : zStep scr own nL pc ini (.newarray ty) len lv2 st h = some (pc', l2, st', h2)) (hu : uk lv) (hu2 : uk lv2) (hsub : Sub lv2 lv) : ∃ l1, zStep scr own nL pc ini (.newarray ty) len lv st h = some (pc', l1, st', h2) ∧ uk l1 ∧ uk l2 ∧ Sub l2 l1 := by
  replace hs : ((match (generalizing := false) st with
    | .int n :: r => (match (generalizing := false) shp[h.1]? with
      | some (.inr (t, N)) => bif ((Nat.beq t 0 && decide (ty = .int)) || (Nat.beq t 1 && decide (ty = .byte))) && decide (0 ≤ n.toInt) && Nat.beq n.toNatClampNeg N then some (pc + 2, lv2, .ref h.1 :: r, (h.1 + 1, (fun a => if a = h.1 then (fun _ => 0) else h.2.1 a), (fun a => if a = h.1 then (fun _ => none) else h.2.2 a))) else none
      | _ => none)
    | _ => none)) = some (pc', l2, st', h2) := hs
  simp only [Bool.cond_eq_ite] at hs
  have key : ∀ x : Cfg, ((match (generalizing := false) st with
    | .int n :: r => (match (generalizing := false) shp[h.1]? with
      | some (.inr (t, N)) => bif ((Nat.beq t 0 && decide (ty = .int)) || (Nat.beq t 1 && decide (ty = .byte))) && decide (0 ≤ n.toInt) && Nat.beq n.toNatClampNeg N then some (pc + 2, lv2, .ref h.1 :: r, (h.1 + 1, (fun a => if a = h.1 then (fun _ => 0) else h.2.1 a), (fun a => if a = h.1 then (fun _ => none) else h.2.2 a))) else none
      | _ => none)
    | _ => none)) = some x → x.2.1 = lv2 ∧ ((match (generalizing := false) st with
    | .int n :: r => (match (generalizing := false) shp[h.1]? with
      | some (.inr (t, N)) => bif ((Nat.beq t 0 && decide (ty = .int)) || (Nat.beq t 1 && decide (ty = .byte))) && decide (0 ≤ n.toInt) && Nat.beq n.toNatClampNeg N then some (pc + 2, lv, .ref h.1 :: r, (h.1 + 1, (fun a => if a = h.1 then (fun _ => 0) else h.2.1 a), (fun a => if a = h.1 then (fun _ => none) else h.2.2 a))) else none
      | _ => none)
    | _ => none)) = some (x.1, lv, x.2.2.1, x.2.2.2) := by
    clear hs hu hu2 hsub
    intro x hx
    simp only [Bool.cond_eq_ite] at hx ⊢
    repeat' split at hx
    all_goals first | (cases hx; done) | (cases hx; exact ⟨rfl, rfl⟩) | (cases hx; refine ⟨rfl, ?_⟩; simp_all; done) | (cases hx; refine ⟨rfl, ?_⟩; simp_all; (intro hh; first | omega | exact absurd hh (Int32.not_lt.mpr (by assumption))))
  simp only [← Bool.cond_eq_ite] at hs
  obtain ⟨e1, e2⟩ := key _ (show ((match (generalizing := false) st with
    | .int n :: r => (match (generalizing := false) shp[h.1]? with
      | some (.inr (t, N)) => bif ((Nat.beq t 0 && decide (ty = .int)) || (Nat.beq t 1 && decide (ty = .byte))) && decide (0 ≤ n.toInt) && Nat.beq n.toNatClampNeg N then some (pc + 2, lv2, .ref h.1 :: r, (h.1 + 1, (fun a => if a = h.1 then (fun _ => 0) else h.2.1 a), (fun a => if a = h.1 then (fun _ => none) else h.2.2 a))) else none
      | _ => none)
    | _ => none)) = some (pc', l2, st', h2) by first | exact hs | simpa only [Bool.cond_eq_ite] using hs)
  replace e1 : l2 = lv2 := e1
  subst e1
  exact ⟨lv, e2, hu, hu2, hsub⟩
theorem zb_anewarray (ix : Nat) {scr : Option (Nat × (Nat → Int32))} {own nL pc len : Nat} {ini : Bool} {lv lv2 l2 : LV} {st st' : List Value} {h h2 : Hp} {pc' : Nat} (hs : zStep scr own nL pc ini (.anewarray ix) len lv2 st h = some (pc', l2, st', h2)) (hu : uk lv) (hu2 : uk lv2) (hsub : Sub lv2 lv) : ∃ l1, zStep scr own nL pc ini (.anewarray ix) len lv st h = some (pc', l1, st', h2) ∧ uk l1 ∧ uk l2 ∧ Sub l2 l1 := by
  replace hs : ((match (generalizing := false) st with
    | .int n :: r => (match (generalizing := false) lkp (poolOf own) ix with
      | some (11, 5, _, _) => (match (generalizing := false) shp[h.1]? with
        | some (.inr (t, N)) => bif Nat.beq t 2 && decide (0 ≤ n.toInt) && Nat.beq n.toNatClampNeg N then some (pc + 3, lv2, .ref h.1 :: r, (h.1 + 1, (fun a => if a = h.1 then (fun _ => 0) else h.2.1 a), (fun a => if a = h.1 then (fun _ => none) else h.2.2 a))) else none
        | _ => none)
      | _ => none)
    | _ => none)) = some (pc', l2, st', h2) := hs
  simp only [Bool.cond_eq_ite] at hs
  have key : ∀ x : Cfg, ((match (generalizing := false) st with
    | .int n :: r => (match (generalizing := false) lkp (poolOf own) ix with
      | some (11, 5, _, _) => (match (generalizing := false) shp[h.1]? with
        | some (.inr (t, N)) => bif Nat.beq t 2 && decide (0 ≤ n.toInt) && Nat.beq n.toNatClampNeg N then some (pc + 3, lv2, .ref h.1 :: r, (h.1 + 1, (fun a => if a = h.1 then (fun _ => 0) else h.2.1 a), (fun a => if a = h.1 then (fun _ => none) else h.2.2 a))) else none
        | _ => none)
      | _ => none)
    | _ => none)) = some x → x.2.1 = lv2 ∧ ((match (generalizing := false) st with
    | .int n :: r => (match (generalizing := false) lkp (poolOf own) ix with
      | some (11, 5, _, _) => (match (generalizing := false) shp[h.1]? with
        | some (.inr (t, N)) => bif Nat.beq t 2 && decide (0 ≤ n.toInt) && Nat.beq n.toNatClampNeg N then some (pc + 3, lv, .ref h.1 :: r, (h.1 + 1, (fun a => if a = h.1 then (fun _ => 0) else h.2.1 a), (fun a => if a = h.1 then (fun _ => none) else h.2.2 a))) else none
        | _ => none)
      | _ => none)
    | _ => none)) = some (x.1, lv, x.2.2.1, x.2.2.2) := by
    clear hs hu hu2 hsub
    intro x hx
    simp only [Bool.cond_eq_ite] at hx ⊢
    repeat' split at hx
    all_goals first | (cases hx; done) | (cases hx; exact ⟨rfl, rfl⟩) | (cases hx; refine ⟨rfl, ?_⟩; simp_all; done) | (cases hx; refine ⟨rfl, ?_⟩; simp_all; (intro hh; first | omega | exact absurd hh (Int32.not_lt.mpr (by assumption))))
  simp only [← Bool.cond_eq_ite] at hs
  obtain ⟨e1, e2⟩ := key _ (show ((match (generalizing := false) st with
    | .int n :: r => (match (generalizing := false) lkp (poolOf own) ix with
      | some (11, 5, _, _) => (match (generalizing := false) shp[h.1]? with
        | some (.inr (t, N)) => bif Nat.beq t 2 && decide (0 ≤ n.toInt) && Nat.beq n.toNatClampNeg N then some (pc + 3, lv2, .ref h.1 :: r, (h.1 + 1, (fun a => if a = h.1 then (fun _ => 0) else h.2.1 a), (fun a => if a = h.1 then (fun _ => none) else h.2.2 a))) else none
        | _ => none)
      | _ => none)
    | _ => none)) = some (pc', l2, st', h2) by first | exact hs | simpa only [Bool.cond_eq_ite] using hs)
  replace e1 : l2 = lv2 := e1
  subst e1
  exact ⟨lv, e2, hu, hu2, hsub⟩
theorem zb_invokespecial (ix : Nat) {scr : Option (Nat × (Nat → Int32))} {own nL pc len : Nat} {ini : Bool} {lv lv2 l2 : LV} {st st' : List Value} {h h2 : Hp} {pc' : Nat} (hs : zStep scr own nL pc ini (.invokespecial ix) len lv2 st h = some (pc', l2, st', h2)) (hu : uk lv) (hu2 : uk lv2) (hsub : Sub lv2 lv) : ∃ l1, zStep scr own nL pc ini (.invokespecial ix) len lv st h = some (pc', l1, st', h2) ∧ uk l1 ∧ uk l2 ∧ Sub l2 l1 := by
  replace hs : ((match (generalizing := false) st with
    | .ref _ :: r => (match (generalizing := false) lkp (poolOf own) ix with
      | some (7, _, _, _) => bif Nat.ble (catS r) 8 then some (pc + 3, lv2, r, h) else none
      | _ => none)
    | _ => none)) = some (pc', l2, st', h2) := hs
  simp only [Bool.cond_eq_ite] at hs
  have key : ∀ x : Cfg, ((match (generalizing := false) st with
    | .ref _ :: r => (match (generalizing := false) lkp (poolOf own) ix with
      | some (7, _, _, _) => bif Nat.ble (catS r) 8 then some (pc + 3, lv2, r, h) else none
      | _ => none)
    | _ => none)) = some x → x.2.1 = lv2 ∧ ((match (generalizing := false) st with
    | .ref _ :: r => (match (generalizing := false) lkp (poolOf own) ix with
      | some (7, _, _, _) => bif Nat.ble (catS r) 8 then some (pc + 3, lv, r, h) else none
      | _ => none)
    | _ => none)) = some (x.1, lv, x.2.2.1, x.2.2.2) := by
    clear hs hu hu2 hsub
    intro x hx
    simp only [Bool.cond_eq_ite] at hx ⊢
    repeat' split at hx
    all_goals first | (cases hx; done) | (cases hx; exact ⟨rfl, rfl⟩) | (cases hx; refine ⟨rfl, ?_⟩; simp_all; done) | (cases hx; refine ⟨rfl, ?_⟩; simp_all; (intro hh; first | omega | exact absurd hh (Int32.not_lt.mpr (by assumption))))
  simp only [← Bool.cond_eq_ite] at hs
  obtain ⟨e1, e2⟩ := key _ (show ((match (generalizing := false) st with
    | .ref _ :: r => (match (generalizing := false) lkp (poolOf own) ix with
      | some (7, _, _, _) => bif Nat.ble (catS r) 8 then some (pc + 3, lv2, r, h) else none
      | _ => none)
    | _ => none)) = some (pc', l2, st', h2) by first | exact hs | simpa only [Bool.cond_eq_ite] using hs)
  replace e1 : l2 = lv2 := e1
  subst e1
  exact ⟨lv, e2, hu, hu2, hsub⟩
theorem zb_invokestatic (ix : Nat) {scr : Option (Nat × (Nat → Int32))} {own nL pc len : Nat} {ini : Bool} {lv lv2 l2 : LV} {st st' : List Value} {h h2 : Hp} {pc' : Nat} (hs : zStep scr own nL pc ini (.invokestatic ix) len lv2 st h = some (pc', l2, st', h2)) (hu : uk lv) (hu2 : uk lv2) (hsub : Sub lv2 lv) : ∃ l1, zStep scr own nL pc ini (.invokestatic ix) len lv st h = some (pc', l1, st', h2) ∧ uk l1 ∧ uk l2 ∧ Sub l2 l1 := by
  replace hs : ((match (generalizing := false) lkp (poolOf own) ix with
    | some (8, _, _, _) => (match (generalizing := false) st with
      | .int n :: .int dp :: .ref d :: .int sp :: .ref a :: r => (match (generalizing := false) arrL h a 0 with
        | some n0 => (match (generalizing := false) arrL h d 0 with
          | some n1 => bif decide (0 ≤ n.toInt) && decide (0 ≤ dp.toInt) && decide (0 ≤ sp.toInt) && Nat.ble (sp.toNatClampNeg + n.toNatClampNeg) n0 && Nat.ble (dp.toNatClampNeg + n.toNatClampNeg) n1 && Nat.ble (catS r) 8 then
              some (pc + 3, lv2, r, (h.1, (fun x => if x = d then va_cpy (h.2.1 a) (h.2.1 d) sp.toNatClampNeg dp.toNatClampNeg n.toNatClampNeg else h.2.1 x), h.2.2)) else none
          | none => none)
        | none => none)
      | _ => none)
    | some (13, _, _, _) => (match (generalizing := false) st with
      | .int y :: .int x :: r => bif Nat.ble (catS r) 8 then some (pc + 3, lv2, .int (if x < y then y else x) :: r, h) else none
      | _ => none)
    | some (14, _, _, _) => (match (generalizing := false) st with
      | .int y :: .int x :: r => bif Nat.ble (catS r) 8 then some (pc + 3, lv2, .int (if y < x then y else x) :: r, h) else none
      | _ => none)
    | _ => none)) = some (pc', l2, st', h2) := hs
  simp only [Bool.cond_eq_ite] at hs
  have key : ∀ x : Cfg, ((match (generalizing := false) lkp (poolOf own) ix with
    | some (8, _, _, _) => (match (generalizing := false) st with
      | .int n :: .int dp :: .ref d :: .int sp :: .ref a :: r => (match (generalizing := false) arrL h a 0 with
        | some n0 => (match (generalizing := false) arrL h d 0 with
          | some n1 => bif decide (0 ≤ n.toInt) && decide (0 ≤ dp.toInt) && decide (0 ≤ sp.toInt) && Nat.ble (sp.toNatClampNeg + n.toNatClampNeg) n0 && Nat.ble (dp.toNatClampNeg + n.toNatClampNeg) n1 && Nat.ble (catS r) 8 then
              some (pc + 3, lv2, r, (h.1, (fun x => if x = d then va_cpy (h.2.1 a) (h.2.1 d) sp.toNatClampNeg dp.toNatClampNeg n.toNatClampNeg else h.2.1 x), h.2.2)) else none
          | none => none)
        | none => none)
      | _ => none)
    | some (13, _, _, _) => (match (generalizing := false) st with
      | .int y :: .int x :: r => bif Nat.ble (catS r) 8 then some (pc + 3, lv2, .int (if x < y then y else x) :: r, h) else none
      | _ => none)
    | some (14, _, _, _) => (match (generalizing := false) st with
      | .int y :: .int x :: r => bif Nat.ble (catS r) 8 then some (pc + 3, lv2, .int (if y < x then y else x) :: r, h) else none
      | _ => none)
    | _ => none)) = some x → x.2.1 = lv2 ∧ ((match (generalizing := false) lkp (poolOf own) ix with
    | some (8, _, _, _) => (match (generalizing := false) st with
      | .int n :: .int dp :: .ref d :: .int sp :: .ref a :: r => (match (generalizing := false) arrL h a 0 with
        | some n0 => (match (generalizing := false) arrL h d 0 with
          | some n1 => bif decide (0 ≤ n.toInt) && decide (0 ≤ dp.toInt) && decide (0 ≤ sp.toInt) && Nat.ble (sp.toNatClampNeg + n.toNatClampNeg) n0 && Nat.ble (dp.toNatClampNeg + n.toNatClampNeg) n1 && Nat.ble (catS r) 8 then
              some (pc + 3, lv, r, (h.1, (fun x => if x = d then va_cpy (h.2.1 a) (h.2.1 d) sp.toNatClampNeg dp.toNatClampNeg n.toNatClampNeg else h.2.1 x), h.2.2)) else none
          | none => none)
        | none => none)
      | _ => none)
    | some (13, _, _, _) => (match (generalizing := false) st with
      | .int y :: .int x :: r => bif Nat.ble (catS r) 8 then some (pc + 3, lv, .int (if x < y then y else x) :: r, h) else none
      | _ => none)
    | some (14, _, _, _) => (match (generalizing := false) st with
      | .int y :: .int x :: r => bif Nat.ble (catS r) 8 then some (pc + 3, lv, .int (if y < x then y else x) :: r, h) else none
      | _ => none)
    | _ => none)) = some (x.1, lv, x.2.2.1, x.2.2.2) := by
    clear hs hu hu2 hsub
    intro x hx
    simp only [Bool.cond_eq_ite] at hx ⊢
    repeat' split at hx
    all_goals first | (cases hx; done) | (cases hx; exact ⟨rfl, rfl⟩) | (cases hx; refine ⟨rfl, ?_⟩; simp_all; done) | (cases hx; refine ⟨rfl, ?_⟩; simp_all; (intro hh; first | omega | exact absurd hh (Int32.not_lt.mpr (by assumption))))
  simp only [← Bool.cond_eq_ite] at hs
  obtain ⟨e1, e2⟩ := key _ (show ((match (generalizing := false) lkp (poolOf own) ix with
    | some (8, _, _, _) => (match (generalizing := false) st with
      | .int n :: .int dp :: .ref d :: .int sp :: .ref a :: r => (match (generalizing := false) arrL h a 0 with
        | some n0 => (match (generalizing := false) arrL h d 0 with
          | some n1 => bif decide (0 ≤ n.toInt) && decide (0 ≤ dp.toInt) && decide (0 ≤ sp.toInt) && Nat.ble (sp.toNatClampNeg + n.toNatClampNeg) n0 && Nat.ble (dp.toNatClampNeg + n.toNatClampNeg) n1 && Nat.ble (catS r) 8 then
              some (pc + 3, lv2, r, (h.1, (fun x => if x = d then va_cpy (h.2.1 a) (h.2.1 d) sp.toNatClampNeg dp.toNatClampNeg n.toNatClampNeg else h.2.1 x), h.2.2)) else none
          | none => none)
        | none => none)
      | _ => none)
    | some (13, _, _, _) => (match (generalizing := false) st with
      | .int y :: .int x :: r => bif Nat.ble (catS r) 8 then some (pc + 3, lv2, .int (if x < y then y else x) :: r, h) else none
      | _ => none)
    | some (14, _, _, _) => (match (generalizing := false) st with
      | .int y :: .int x :: r => bif Nat.ble (catS r) 8 then some (pc + 3, lv2, .int (if y < x then y else x) :: r, h) else none
      | _ => none)
    | _ => none)) = some (pc', l2, st', h2) by first | exact hs | simpa only [Bool.cond_eq_ite] using hs)
  replace e1 : l2 = lv2 := e1
  subst e1
  exact ⟨lv, e2, hu, hu2, hsub⟩
theorem zStep_sub {ins : Instr} {scr : Option (Nat × (Nat → Int32))} {own nL pc len : Nat} {ini : Bool} {lv lv2 l2 : LV} {st st' : List Value} {h h2 : Hp} {pc' : Nat} (hs : zStep scr own nL pc ini ins len lv2 st h = some (pc', l2, st', h2)) (hu : uk lv) (hu2 : uk lv2) (hsub : Sub lv2 lv) : ∃ l1, zStep scr own nL pc ini (ins) len lv st h = some (pc', l1, st', h2) ∧ uk l1 ∧ uk l2 ∧ Sub l2 l1 := by
  cases ins with
  | iconst i => exact zb_iconst i hs hu hu2 hsub
  | bipush i => exact zb_bipush i hs hu hu2 hsub
  | sipush i => exact zb_sipush i hs hu hu2 hsub
  | lconst i => exact zb_lconst i hs hu hu2 hsub
  | ldc ix => exact zb_ldc ix hs hu hu2 hsub
  | ldc_w ix => exact zb_ldc_w ix hs hu hu2 hsub
  | ldc2_w ix => exact zb_ldc2_w ix hs hu hu2 hsub
  | iload_n i => exact zb_iload_n i hs hu hu2 hsub
  | iload i => exact zb_iload i hs hu hu2 hsub
  | lload_n i => exact zb_lload_n i hs hu hu2 hsub
  | lload i => exact zb_lload i hs hu hu2 hsub
  | aload_n i => exact zb_aload_n i hs hu hu2 hsub
  | aload i => exact zb_aload i hs hu hu2 hsub
  | istore_n i => exact zb_istore_n i hs hu hu2 hsub
  | istore i => exact zb_istore i hs hu hu2 hsub
  | lstore_n i => exact zb_lstore_n i hs hu hu2 hsub
  | lstore i => exact zb_lstore i hs hu hu2 hsub
  | astore_n i => exact zb_astore_n i hs hu hu2 hsub
  | astore i => exact zb_astore i hs hu hu2 hsub
  | iinc i n => exact zb_iinc i n hs hu hu2 hsub
  | dup => exact zb_dup  hs hu hu2 hsub
  | dup2 => exact zb_dup2  hs hu hu2 hsub
  | pop => exact zb_pop  hs hu hu2 hsub
  | iadd => exact zb_iadd  hs hu hu2 hsub
  | isub => exact zb_isub  hs hu hu2 hsub
  | imul => exact zb_imul  hs hu hu2 hsub
  | idiv => exact zb_idiv  hs hu hu2 hsub
  | irem => exact zb_irem  hs hu hu2 hsub
  | ineg => exact zb_ineg  hs hu hu2 hsub
  | ishl => exact zb_ishl  hs hu hu2 hsub
  | ishr => exact zb_ishr  hs hu hu2 hsub
  | iushr => exact zb_iushr  hs hu hu2 hsub
  | iand => exact zb_iand  hs hu hu2 hsub
  | ior => exact zb_ior  hs hu hu2 hsub
  | ixor => exact zb_ixor  hs hu hu2 hsub
  | i2l => exact zb_i2l  hs hu hu2 hsub
  | i2b => exact zb_i2b  hs hu hu2 hsub
  | l2i => exact zb_l2i  hs hu hu2 hsub
  | ladd => exact zb_ladd  hs hu hu2 hsub
  | lsub => exact zb_lsub  hs hu hu2 hsub
  | lmul => exact zb_lmul  hs hu hu2 hsub
  | ldiv => exact zb_ldiv  hs hu hu2 hsub
  | lrem => exact zb_lrem  hs hu hu2 hsub
  | land => exact zb_land  hs hu hu2 hsub
  | lor => exact zb_lor  hs hu hu2 hsub
  | lshl => exact zb_lshl  hs hu hu2 hsub
  | lshr => exact zb_lshr  hs hu hu2 hsub
  | lcmp => exact zb_lcmp  hs hu hu2 hsub
  | goto off => exact zb_goto off hs hu hu2 hsub
  | if_icmp c0 off => exact zb_if_icmp c0 off hs hu hu2 hsub
  | ifCond c0 off => exact zb_ifCond c0 off hs hu hu2 hsub
  | tableswitch d lo hi offs => exact zb_tableswitch d lo hi offs hs hu hu2 hsub
  | lookupswitch d ps => exact zb_lookupswitch d ps hs hu hu2 hsub
  | getfield ix => exact zb_getfield ix hs hu hu2 hsub
  | putfield ix => exact zb_putfield ix hs hu hu2 hsub
  | iaload => exact zb_iaload  hs hu hu2 hsub
  | baload => exact zb_baload  hs hu hu2 hsub
  | aaload => exact zb_aaload  hs hu hu2 hsub
  | iastore => exact zb_iastore  hs hu hu2 hsub
  | bastore => exact zb_bastore  hs hu hu2 hsub
  | aastore => exact zb_aastore  hs hu hu2 hsub
  | arraylength => exact zb_arraylength  hs hu hu2 hsub
  | new ix => exact zb_new ix hs hu hu2 hsub
  | newarray ty => exact zb_newarray ty hs hu hu2 hsub
  | anewarray ix => exact zb_anewarray ix hs hu hu2 hsub
  | invokespecial ix => exact zb_invokespecial ix hs hu hu2 hsub
  | invokestatic ix => exact zb_invokestatic ix hs hu hu2 hsub
  | _ => exact nomatch (show (none : Option Cfg) = some _ from hs)
theorem z_sub : ∀ (n : Nat) (scr : Option (Nat × (Nat → Int32))) (me : ME) (pc : Nat) (lv lv2 : LV) (st : List Value) (h : Hp) (x : Option Value × Hp), zRun scr n me pc lv2 st h = some x → uk lv → uk lv2 → Sub lv2 lv → zRun scr n me pc lv st h = some x := by
  intro n
  induction n with
  | zero => intro scr me pc lv lv2 st h x hrun; cases hrun
  | succ n ih =>
    intro scr me pc lv lv2 st h x hrun hu hu2 hsub
    rw [zRun] at hrun ⊢
    cases hlk : lkp me.2.2.2.2.2.1 pc with
    | none => rw [hlk] at hrun; cases hrun
    | some il =>
      obtain ⟨ins, len⟩ := il
      rw [hlk] at hrun
      dsimp only at hrun ⊢
      cases hz : zRet me.2.2.2.2.1 ins st with
      | some r => rw [hz] at hrun; exact hrun
      | none =>
        rw [hz] at hrun
        dsimp only at hrun ⊢
        cases hc : zCall me.1 h ins st with
        | some q =>
          obtain ⟨me', as, rest⟩ := q
          rw [hc] at hrun
          dsimp only at hrun ⊢
          cases h1 : zRun none n me' 0 (lv_args 0 as) [] h with
          | none => rw [h1] at hrun; cases hrun
          | some y =>
            obtain ⟨r1, h1'⟩ := y
            rw [h1] at hrun
            exact ih _ _ _ _ _ _ _ _ hrun hu hu2 hsub
        | none =>
          rw [hc] at hrun
          dsimp only at hrun ⊢
          cases hs : zStep scr me.1 me.2.2.2.1 pc (isIni me) ins len lv2 st h with
          | none => rw [hs] at hrun; cases hrun
          | some q =>
            obtain ⟨pc', l2, st', h2⟩ := q
            rw [hs] at hrun
            obtain ⟨l1, e1, u1, u2, s1⟩ := zStep_sub hs hu hu2 hsub
            rw [e1]
            exact ih _ _ _ _ _ _ _ _ hrun u1 u2 s1
def SubP : LV → LV → Prop
  | [], _ => True
  | (i, v) :: l, lv => lkp lv i = some v ∧ SubP l lv
theorem SubP.sub : ∀ {l lv : LV}, SubP l lv → Sub l lv
  | [], lv, _ => fun i v h => by cases h
  | (i, v) :: l, lv, ⟨h1, h2⟩ => fun j w h => by
    rw [lkp_cons] at h
    by_cases hij : i = j
    · rw [if_pos hij] at h; cases h; rw [← hij]; exact h1
    · rw [if_neg hij] at h; exact SubP.sub h2 j w h
def ukB : List Nat → Bool
  | [] => true
  | a :: l => !l.contains a && ukB l
theorem uk_of : ∀ {lv : LV}, ukB (lv.map (fun q => q.1)) = true → uk lv
  | [], _ => fun q hq => by cases hq
  | e :: l, h => by
    replace h : (!(l.map (fun q => q.1)).contains e.1 && ukB (l.map (fun q => q.1))) = true := h
    rw [Bool.and_eq_true] at h
    intro q hq
    rw [lkp_cons]
    rcases List.mem_cons.mp hq with rfl | hq
    · exact if_pos rfl
    · have hne : ¬ e.1 = q.1 := by
        intro he
        have h1 : (l.map (fun q => q.1)).contains e.1 = false := by simpa using h.1
        have h2 : (l.map (fun q => q.1)).contains e.1 = true := by
          rw [List.contains_iff_mem, he]
          exact List.mem_map.mpr ⟨q, hq, rfl⟩
        rw [h1] at h2
        cases h2
      rw [if_neg hne]
      exact uk_of h.2 q hq
section
variable {scr : Option (Nat × (Nat → Int32))} {me : ME} {pc t : Nat} {lv lv2 : LV} {st rest : List Value} {h h' : Hp} {r : Option Value} {off : Int}
theorem TT_sub (hu : ukB (lv.map (fun q => q.1)) = true) (hu2 : ukB (lv2.map (fun q => q.1)) = true) (hs : SubP lv2 lv) (k : TT scr me pc lv2 st h r h') : TT scr me pc lv st h r h' := by
  obtain ⟨n, hn⟩ := k
  exact ⟨n, z_sub n scr me pc lv lv2 st h _ hn (uk_of hu) (uk_of hu2) hs.sub⟩
theorem TT_ieq_t {x y : Int32} (hl : lkp me.2.2.2.2.2.1 pc = some (.if_icmp .eq off, 3)) (hj : jmp pc off = some t) (hc : x = y) (k : TT scr me t lv rest h r h') : TT scr me pc lv (.int y :: .int x :: rest) h r h' := by
  refine TT_step hl rfl rfl ?_ k
  show (match (generalizing := false) jmp pc off with | some t => if cnd .eq x y = true then some (t, lv, rest, h) else some (pc + 3, lv, rest, h) | none => none) = _
  rw [hj]
  exact if_pos (by simpa [cnd] using hc)
theorem TT_ieq_f {x y : Int32} (hl : lkp me.2.2.2.2.2.1 pc = some (.if_icmp .eq off, 3)) (hj : jmp pc off = some t) (hc : ¬ (x = y)) (k : TT scr me (pc + 3) lv rest h r h') : TT scr me pc lv (.int y :: .int x :: rest) h r h' := by
  refine TT_step hl rfl rfl ?_ k
  show (match (generalizing := false) jmp pc off with | some t => if cnd .eq x y = true then some (t, lv, rest, h) else some (pc + 3, lv, rest, h) | none => none) = _
  rw [hj]
  exact if_neg (by simpa [cnd] using hc)
theorem TT_zeq_t {x : Int32} (hl : lkp me.2.2.2.2.2.1 pc = some (.ifCond .eq off, 3)) (hj : jmp pc off = some t) (hc : x = 0) (k : TT scr me t lv rest h r h') : TT scr me pc lv (.int x :: rest) h r h' := by
  refine TT_step hl rfl rfl ?_ k
  show (match (generalizing := false) jmp pc off with | some t => if cnd .eq x 0 = true then some (t, lv, rest, h) else some (pc + 3, lv, rest, h) | none => none) = _
  rw [hj]
  exact if_pos (by simpa [cnd] using hc)
theorem TT_zeq_f {x : Int32} (hl : lkp me.2.2.2.2.2.1 pc = some (.ifCond .eq off, 3)) (hj : jmp pc off = some t) (hc : ¬ (x = 0)) (k : TT scr me (pc + 3) lv rest h r h') : TT scr me pc lv (.int x :: rest) h r h' := by
  refine TT_step hl rfl rfl ?_ k
  show (match (generalizing := false) jmp pc off with | some t => if cnd .eq x 0 = true then some (t, lv, rest, h) else some (pc + 3, lv, rest, h) | none => none) = _
  rw [hj]
  exact if_neg (by simpa [cnd] using hc)
theorem TT_ine_t {x y : Int32} (hl : lkp me.2.2.2.2.2.1 pc = some (.if_icmp .ne off, 3)) (hj : jmp pc off = some t) (hc : ¬ x = y) (k : TT scr me t lv rest h r h') : TT scr me pc lv (.int y :: .int x :: rest) h r h' := by
  refine TT_step hl rfl rfl ?_ k
  show (match (generalizing := false) jmp pc off with | some t => if cnd .ne x y = true then some (t, lv, rest, h) else some (pc + 3, lv, rest, h) | none => none) = _
  rw [hj]
  exact if_pos (by simpa [cnd] using hc)
theorem TT_ine_f {x y : Int32} (hl : lkp me.2.2.2.2.2.1 pc = some (.if_icmp .ne off, 3)) (hj : jmp pc off = some t) (hc : x = y) (k : TT scr me (pc + 3) lv rest h r h') : TT scr me pc lv (.int y :: .int x :: rest) h r h' := by
  refine TT_step hl rfl rfl ?_ k
  show (match (generalizing := false) jmp pc off with | some t => if cnd .ne x y = true then some (t, lv, rest, h) else some (pc + 3, lv, rest, h) | none => none) = _
  rw [hj]
  exact if_neg (by simpa [cnd] using hc)
theorem TT_zne_t {x : Int32} (hl : lkp me.2.2.2.2.2.1 pc = some (.ifCond .ne off, 3)) (hj : jmp pc off = some t) (hc : ¬ x = 0) (k : TT scr me t lv rest h r h') : TT scr me pc lv (.int x :: rest) h r h' := by
  refine TT_step hl rfl rfl ?_ k
  show (match (generalizing := false) jmp pc off with | some t => if cnd .ne x 0 = true then some (t, lv, rest, h) else some (pc + 3, lv, rest, h) | none => none) = _
  rw [hj]
  exact if_pos (by simpa [cnd] using hc)
theorem TT_zne_f {x : Int32} (hl : lkp me.2.2.2.2.2.1 pc = some (.ifCond .ne off, 3)) (hj : jmp pc off = some t) (hc : x = 0) (k : TT scr me (pc + 3) lv rest h r h') : TT scr me pc lv (.int x :: rest) h r h' := by
  refine TT_step hl rfl rfl ?_ k
  show (match (generalizing := false) jmp pc off with | some t => if cnd .ne x 0 = true then some (t, lv, rest, h) else some (pc + 3, lv, rest, h) | none => none) = _
  rw [hj]
  exact if_neg (by simpa [cnd] using hc)
theorem TT_ilt_t {x y : Int32} (hl : lkp me.2.2.2.2.2.1 pc = some (.if_icmp .lt off, 3)) (hj : jmp pc off = some t) (hc : x < y) (k : TT scr me t lv rest h r h') : TT scr me pc lv (.int y :: .int x :: rest) h r h' := by
  refine TT_step hl rfl rfl ?_ k
  show (match (generalizing := false) jmp pc off with | some t => if cnd .lt x y = true then some (t, lv, rest, h) else some (pc + 3, lv, rest, h) | none => none) = _
  rw [hj]
  exact if_pos (by simpa [cnd] using hc)
theorem TT_ilt_f {x y : Int32} (hl : lkp me.2.2.2.2.2.1 pc = some (.if_icmp .lt off, 3)) (hj : jmp pc off = some t) (hc : ¬ (x < y)) (k : TT scr me (pc + 3) lv rest h r h') : TT scr me pc lv (.int y :: .int x :: rest) h r h' := by
  refine TT_step hl rfl rfl ?_ k
  show (match (generalizing := false) jmp pc off with | some t => if cnd .lt x y = true then some (t, lv, rest, h) else some (pc + 3, lv, rest, h) | none => none) = _
  rw [hj]
  exact if_neg (by simpa [cnd] using hc)
theorem TT_zlt_t {x : Int32} (hl : lkp me.2.2.2.2.2.1 pc = some (.ifCond .lt off, 3)) (hj : jmp pc off = some t) (hc : x < 0) (k : TT scr me t lv rest h r h') : TT scr me pc lv (.int x :: rest) h r h' := by
  refine TT_step hl rfl rfl ?_ k
  show (match (generalizing := false) jmp pc off with | some t => if cnd .lt x 0 = true then some (t, lv, rest, h) else some (pc + 3, lv, rest, h) | none => none) = _
  rw [hj]
  exact if_pos (by simpa [cnd] using hc)
theorem TT_zlt_f {x : Int32} (hl : lkp me.2.2.2.2.2.1 pc = some (.ifCond .lt off, 3)) (hj : jmp pc off = some t) (hc : ¬ (x < 0)) (k : TT scr me (pc + 3) lv rest h r h') : TT scr me pc lv (.int x :: rest) h r h' := by
  refine TT_step hl rfl rfl ?_ k
  show (match (generalizing := false) jmp pc off with | some t => if cnd .lt x 0 = true then some (t, lv, rest, h) else some (pc + 3, lv, rest, h) | none => none) = _
  rw [hj]
  exact if_neg (by simpa [cnd] using hc)
theorem TT_ige_t {x y : Int32} (hl : lkp me.2.2.2.2.2.1 pc = some (.if_icmp .ge off, 3)) (hj : jmp pc off = some t) (hc : y ≤ x) (k : TT scr me t lv rest h r h') : TT scr me pc lv (.int y :: .int x :: rest) h r h' := by
  refine TT_step hl rfl rfl ?_ k
  show (match (generalizing := false) jmp pc off with | some t => if cnd .ge x y = true then some (t, lv, rest, h) else some (pc + 3, lv, rest, h) | none => none) = _
  rw [hj]
  exact if_pos (by simpa [cnd] using hc)
theorem TT_ige_f {x y : Int32} (hl : lkp me.2.2.2.2.2.1 pc = some (.if_icmp .ge off, 3)) (hj : jmp pc off = some t) (hc : ¬ (y ≤ x)) (k : TT scr me (pc + 3) lv rest h r h') : TT scr me pc lv (.int y :: .int x :: rest) h r h' := by
  refine TT_step hl rfl rfl ?_ k
  show (match (generalizing := false) jmp pc off with | some t => if cnd .ge x y = true then some (t, lv, rest, h) else some (pc + 3, lv, rest, h) | none => none) = _
  rw [hj]
  exact if_neg (by simpa [cnd] using hc)
theorem TT_zge_t {x : Int32} (hl : lkp me.2.2.2.2.2.1 pc = some (.ifCond .ge off, 3)) (hj : jmp pc off = some t) (hc : 0 ≤ x) (k : TT scr me t lv rest h r h') : TT scr me pc lv (.int x :: rest) h r h' := by
  refine TT_step hl rfl rfl ?_ k
  show (match (generalizing := false) jmp pc off with | some t => if cnd .ge x 0 = true then some (t, lv, rest, h) else some (pc + 3, lv, rest, h) | none => none) = _
  rw [hj]
  exact if_pos (by simpa [cnd] using hc)
theorem TT_zge_f {x : Int32} (hl : lkp me.2.2.2.2.2.1 pc = some (.ifCond .ge off, 3)) (hj : jmp pc off = some t) (hc : ¬ (0 ≤ x)) (k : TT scr me (pc + 3) lv rest h r h') : TT scr me pc lv (.int x :: rest) h r h' := by
  refine TT_step hl rfl rfl ?_ k
  show (match (generalizing := false) jmp pc off with | some t => if cnd .ge x 0 = true then some (t, lv, rest, h) else some (pc + 3, lv, rest, h) | none => none) = _
  rw [hj]
  exact if_neg (by simpa [cnd] using hc)
theorem TT_igt_t {x y : Int32} (hl : lkp me.2.2.2.2.2.1 pc = some (.if_icmp .gt off, 3)) (hj : jmp pc off = some t) (hc : y < x) (k : TT scr me t lv rest h r h') : TT scr me pc lv (.int y :: .int x :: rest) h r h' := by
  refine TT_step hl rfl rfl ?_ k
  show (match (generalizing := false) jmp pc off with | some t => if cnd .gt x y = true then some (t, lv, rest, h) else some (pc + 3, lv, rest, h) | none => none) = _
  rw [hj]
  exact if_pos (by simpa [cnd] using hc)
theorem TT_igt_f {x y : Int32} (hl : lkp me.2.2.2.2.2.1 pc = some (.if_icmp .gt off, 3)) (hj : jmp pc off = some t) (hc : ¬ (y < x)) (k : TT scr me (pc + 3) lv rest h r h') : TT scr me pc lv (.int y :: .int x :: rest) h r h' := by
  refine TT_step hl rfl rfl ?_ k
  show (match (generalizing := false) jmp pc off with | some t => if cnd .gt x y = true then some (t, lv, rest, h) else some (pc + 3, lv, rest, h) | none => none) = _
  rw [hj]
  exact if_neg (by simpa [cnd] using hc)
theorem TT_zgt_t {x : Int32} (hl : lkp me.2.2.2.2.2.1 pc = some (.ifCond .gt off, 3)) (hj : jmp pc off = some t) (hc : 0 < x) (k : TT scr me t lv rest h r h') : TT scr me pc lv (.int x :: rest) h r h' := by
  refine TT_step hl rfl rfl ?_ k
  show (match (generalizing := false) jmp pc off with | some t => if cnd .gt x 0 = true then some (t, lv, rest, h) else some (pc + 3, lv, rest, h) | none => none) = _
  rw [hj]
  exact if_pos (by simpa [cnd] using hc)
theorem TT_zgt_f {x : Int32} (hl : lkp me.2.2.2.2.2.1 pc = some (.ifCond .gt off, 3)) (hj : jmp pc off = some t) (hc : ¬ (0 < x)) (k : TT scr me (pc + 3) lv rest h r h') : TT scr me pc lv (.int x :: rest) h r h' := by
  refine TT_step hl rfl rfl ?_ k
  show (match (generalizing := false) jmp pc off with | some t => if cnd .gt x 0 = true then some (t, lv, rest, h) else some (pc + 3, lv, rest, h) | none => none) = _
  rw [hj]
  exact if_neg (by simpa [cnd] using hc)
theorem TT_ile_t {x y : Int32} (hl : lkp me.2.2.2.2.2.1 pc = some (.if_icmp .le off, 3)) (hj : jmp pc off = some t) (hc : x ≤ y) (k : TT scr me t lv rest h r h') : TT scr me pc lv (.int y :: .int x :: rest) h r h' := by
  refine TT_step hl rfl rfl ?_ k
  show (match (generalizing := false) jmp pc off with | some t => if cnd .le x y = true then some (t, lv, rest, h) else some (pc + 3, lv, rest, h) | none => none) = _
  rw [hj]
  exact if_pos (by simpa [cnd] using hc)
theorem TT_ile_f {x y : Int32} (hl : lkp me.2.2.2.2.2.1 pc = some (.if_icmp .le off, 3)) (hj : jmp pc off = some t) (hc : ¬ (x ≤ y)) (k : TT scr me (pc + 3) lv rest h r h') : TT scr me pc lv (.int y :: .int x :: rest) h r h' := by
  refine TT_step hl rfl rfl ?_ k
  show (match (generalizing := false) jmp pc off with | some t => if cnd .le x y = true then some (t, lv, rest, h) else some (pc + 3, lv, rest, h) | none => none) = _
  rw [hj]
  exact if_neg (by simpa [cnd] using hc)
theorem TT_zle_t {x : Int32} (hl : lkp me.2.2.2.2.2.1 pc = some (.ifCond .le off, 3)) (hj : jmp pc off = some t) (hc : x ≤ 0) (k : TT scr me t lv rest h r h') : TT scr me pc lv (.int x :: rest) h r h' := by
  refine TT_step hl rfl rfl ?_ k
  show (match (generalizing := false) jmp pc off with | some t => if cnd .le x 0 = true then some (t, lv, rest, h) else some (pc + 3, lv, rest, h) | none => none) = _
  rw [hj]
  exact if_pos (by simpa [cnd] using hc)
theorem TT_zle_f {x : Int32} (hl : lkp me.2.2.2.2.2.1 pc = some (.ifCond .le off, 3)) (hj : jmp pc off = some t) (hc : ¬ (x ≤ 0)) (k : TT scr me (pc + 3) lv rest h r h') : TT scr me pc lv (.int x :: rest) h r h' := by
  refine TT_step hl rfl rfl ?_ k
  show (match (generalizing := false) jmp pc off with | some t => if cnd .le x 0 = true then some (t, lv, rest, h) else some (pc + 3, lv, rest, h) | none => none) = _
  rw [hj]
  exact if_neg (by simpa [cnd] using hc)
theorem arrL_ns {h : Hp} {i t n : Nat} (ha : arrL h i t = some n) : Nat.beq i sId = false := by
  have := shp_lt (arrL_spec ha).2
  cases hb : Nat.beq i sId with
  | false => rfl
  | true => have := Nat.eq_of_beq_eq_true hb; unfold sId at this; omega
theorem TT_iald {i n : Nat} {j : Int32} (hl : lkp me.2.2.2.2.2.1 pc = some (.iaload, 1)) (ha : arrL h i 0 = some n) (hb : inB j n = true) (k : TT scr me (pc + 1) lv (.int (h.2.1 i j.toNatClampNeg) :: rest) h r h') : TT scr me pc lv (.int j :: .ref i :: rest) h r h' := by
  refine TT_step hl rfl rfl ?_ k
  show (bif Nat.beq i sId then _ else (match (generalizing := false) arrL h i 0 with | some n => bif inB j n then some (pc + 1, lv, Value.int (h.2.1 i j.toNatClampNeg) :: rest, h) else none | none => none)) = _
  rw [arrL_ns ha, ha]
  dsimp only
  rw [hb]
  rfl
theorem TT_bald {i n : Nat} {j : Int32} (hl : lkp me.2.2.2.2.2.1 pc = some (.baload, 1)) (ha : arrL h i 1 = some n) (hb : inB j n = true) (k : TT scr me (pc + 1) lv (.int (h.2.1 i j.toNatClampNeg) :: rest) h r h') : TT scr me pc lv (.int j :: .ref i :: rest) h r h' := by
  refine TT_step hl rfl rfl ?_ k
  show (match (generalizing := false) arrL h i 1 with | some n => bif inB j n then some (pc + 1, lv, Value.int (h.2.1 i j.toNatClampNeg) :: rest, h) else none | none => none) = _
  rw [ha]
  dsimp only
  rw [hb]
  rfl
theorem TT_iast {i n : Nat} {j x : Int32} (hl : lkp me.2.2.2.2.2.1 pc = some (.iastore, 1)) (ha : arrL h i 0 = some n) (hb : inB j n = true) (k : TT scr me (pc + 1) lv rest (h.1, up2 h.2.1 i j.toNatClampNeg x, h.2.2) r h') : TT scr me pc lv (.int x :: .int j :: .ref i :: rest) h r h' := by
  refine TT_step hl rfl rfl ?_ k
  show (match (generalizing := false) arrL h i 0 with | some n => bif inB j n then some (pc + 1, lv, rest, (h.1, up2 h.2.1 i j.toNatClampNeg x, h.2.2)) else none | none => none) = _
  rw [ha]
  dsimp only
  rw [hb]
  rfl
theorem TT_bast {i n : Nat} {j x : Int32} (hl : lkp me.2.2.2.2.2.1 pc = some (.bastore, 1)) (ha : arrL h i 1 = some n) (hb : inB j n = true) (k : TT scr me (pc + 1) lv rest (h.1, up2 h.2.1 i j.toNatClampNeg (vp_nar .byte x), h.2.2) r h') : TT scr me pc lv (.int x :: .int j :: .ref i :: rest) h r h' := by
  refine TT_step hl rfl rfl ?_ k
  show (match (generalizing := false) arrL h i 1 with | some n => bif inB j n then some (pc + 1, lv, rest, (h.1, up2 h.2.1 i j.toNatClampNeg (vp_nar .byte x), h.2.2)) else none | none => none) = _
  rw [ha]
  dsimp only
  rw [hb]
  rfl
theorem TT_idiv {x y : Int32} (hl : lkp me.2.2.2.2.2.1 pc = some (.idiv, 1)) (hb : ¬ y = 0) (k : TT scr me (pc + 1) lv (.int (x / y) :: rest) h r h') : TT scr me pc lv (.int y :: .int x :: rest) h r h' := by
  exact TT_step hl rfl rfl (if_neg hb) k
theorem TT_irem {x y : Int32} (hl : lkp me.2.2.2.2.2.1 pc = some (.irem, 1)) (hb : ¬ y = 0) (k : TT scr me (pc + 1) lv (.int (x - x / y * y) :: rest) h r h') : TT scr me pc lv (.int y :: .int x :: rest) h r h' := by
  exact TT_step hl rfl rfl (if_neg hb) k
theorem TT_ldiv {x y : Int64} (hl : lkp me.2.2.2.2.2.1 pc = some (.ldiv, 1)) (hb : ¬ y = 0) (k : TT scr me (pc + 1) lv (.long (x / y) :: rest) h r h') : TT scr me pc lv (.long y :: .long x :: rest) h r h' := by
  exact TT_step hl rfl rfl (if_neg hb) k
theorem TT_lrem {x y : Int64} (hl : lkp me.2.2.2.2.2.1 pc = some (.lrem, 1)) (hb : ¬ y = 0) (k : TT scr me (pc + 1) lv (.long (x - x / y * y) :: rest) h r h') : TT scr me pc lv (.long y :: .long x :: rest) h r h' := by
  exact TT_step hl rfl rfl (if_neg hb) k
theorem TT_tout {x : Int32} {d lo hi : Int} {offs : Array Int} {len : Nat} (hl : lkp me.2.2.2.2.2.1 pc = some (.tableswitch d lo hi offs, len)) (hx : x.toInt < lo ∨ hi < x.toInt) (hj : jmp pc d = some t) (k : TT scr me t lv rest h r h') : TT scr me pc lv (.int x :: rest) h r h' := by
  refine TT_step hl rfl rfl ?_ k
  show (if x.toInt < lo ∨ hi < x.toInt then (match (generalizing := false) jmp pc d with
        | some t => some (t, lv, rest, h)
        | none => none) else _) = _
  rw [if_pos hx, hj]
theorem TT_tin {x : Int32} {d lo hi off : Int} {offs : Array Int} {len : Nat} (hl : lkp me.2.2.2.2.2.1 pc = some (.tableswitch d lo hi offs, len)) (hx : ¬ (x.toInt < lo ∨ hi < x.toInt)) (ho : offs[(x.toInt - lo).toNat]? = some off) (hj : jmp pc off = some t) (k : TT scr me t lv rest h r h') : TT scr me pc lv (.int x :: rest) h r h' := by
  refine TT_step hl rfl rfl ?_ k
  show (if x.toInt < lo ∨ hi < x.toInt then _ else (match (generalizing := false) offs[(x.toInt - lo).toNat]? with
        | some off => (match (generalizing := false) jmp pc off with
          | some t => some (t, lv, rest, h)
          | none => none)
        | none => none)) = _
  rw [if_neg hx, ho]
  dsimp only
  rw [hj]
theorem TT_lsw {x : Int32} {d off : Int} {ps : Array (Int × Int)} {len : Nat} (hl : lkp me.2.2.2.2.2.1 pc = some (.lookupswitch d ps, len)) (hp : (ps.toList.zip (ps.toList.drop 1)).all (fun (a, next) => a.1 < next.1) = true) (ho : Op.lookupswitch.offset ps.toList d x.toInt = off) (hj : jmp pc off = some t) (k : TT scr me t lv rest h r h') : TT scr me pc lv (.int x :: rest) h r h' := by
  refine TT_step hl rfl rfl ?_ k
  show (bif (ps.toList.zip (ps.toList.drop 1)).all (fun (a, next) => a.1 < next.1) then (match (generalizing := false) jmp pc (Op.lookupswitch.offset ps.toList d x.toInt) with
        | some t => some (t, lv, rest, h)
        | none => none) else none) = _
  rw [hp, ho, hj]
  rfl
end
