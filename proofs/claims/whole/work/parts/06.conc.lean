/-! How the abstract heap lies in the machine's: cell i at address β i; the world of the kit that it is. -/
def cv (β : Nat → Nat) (v : Value) : Value := match v with
  | .ref i => .ref (β i)
  | v => v
theorem cv_cat (β : Nat → Nat) (v : Value) : (cv β v).category = v.category := by cases v <;> rfl
theorem cv_rf (β : Nat → Nat) (r : Option Nat) : cv β (rfV r) = va_rf (r.map β) := by cases r <;> rfl
def cvL (β : Nat → Nat) (lv : LV) : LV := lv.map (fun q => (q.1, cv β q.2))
theorem cvL_put (β : Nat → Nat) (lv : LV) (i : Nat) (v : Value) : (i, cv β v) :: (cvL β lv).filter (fun q => !(q.1 == i) && !(q.1 + 1 == i && q.2.category == 2)) = cvL β (lvPut lv i v) := by
  simp only [cvL, lvPut, List.map_cons, List.filter_map, Function.comp_def, cv_cat]
theorem cvL_put2 (β : Nat → Nat) (lv : LV) (i : Nat) (v : Value) : (i, cv β v) :: (cvL β lv).filter (fun q => !(q.1 == i) && (!(q.1 == i + 1) && !(q.1 + 1 == i && q.2.category == 2))) = cvL β (lvPut2 lv i v) := by
  simp only [cvL, lvPut2, List.map_cons, List.filter_map, Function.comp_def, cv_cat]
theorem cvL_in {β : Nat → Nat} {lv : LV} {i : Nat} {v : Value} (h : lkp lv i = some v) : (i, cv β v) ∈ cvL β lv := List.mem_map.mpr ⟨(i, v), lkp_mem h, rfl⟩
theorem ldI_at {β : Nat → Nat} {lv : LV} {i nL : Nat} {x : Int32} {ls : Array Slot} (hl : lv_has ls nL (cvL β lv)) (h : ldI lv i = some x) : ls[i]? = some (.val (.int x)) := by
  unfold ldI at h
  split at h
  next y hy => cases h; exact hl.2.2 _ (cvL_in (β := β) hy)
  next => cases h
theorem ldL_at {β : Nat → Nat} {lv : LV} {i nL : Nat} {x : Int64} {ls : Array Slot} (hl : lv_has ls nL (cvL β lv)) (h : ldL lv i = some x) : ls[i]? = some (.val (.long x)) := by
  unfold ldL at h
  split at h
  next y hy => cases h; exact hl.2.2 _ (cvL_in (β := β) hy)
  next => cases h
theorem ldA_at {β : Nat → Nat} {lv : LV} {i nL : Nat} {x : Nat} {ls : Array Slot} (hl : lv_has ls nL (cvL β lv)) (h : ldA lv i = some x) : ls[i]? = some (.val (.ref (β x))) := by
  unfold ldA at h
  split at h
  next y hy => cases h; exact hl.2.2 _ (cvL_in (β := β) hy)
  next => cases h
theorem ldI_k {β : Nat → Nat} {lv : LV} {i : Nat} {x : Int32} (h : ldI lv i = some x) : ∃ k : Nat, (cvL β lv)[k]? = some (i, .int x) := by
  unfold ldI at h
  split at h
  next y hy => cases h; exact List.getElem?_of_mem (cvL_in (β := β) hy)
  next => cases h
abbrev CT := ClassId × ClassId × ClassId
def fldsOf (β : Nat → Nat) (h : Hp) (i ci : Nat) : List Value := (List.range (nF ci)).map (fun k => bif isR ci k then va_rf ((h.2.2 i k).map β) else .int (h.2.1 i k))
def cellOf (β : Nat → Nat) (cT : CT) (h : Hp) (i : Nat) : va_E := match shp[i]? with
  | some (.inl ci) => .inr (ci, fldsOf β h i ci)
  | some (.inr (0, n)) => .inl (cT.1, n, .inl (h.2.1 i))
  | some (.inr (1, n)) => .inl (cT.2.1, n, .inl (h.2.1 i))
  | some (.inr (_, n)) => .inl (cT.2.2, n, .inr (.inr (.inr (.inr (fun j => (h.2.2 i j).map β)))))
  | none => .inr (0, [])
def wsOf (β : Nat → Nat) (cT : CT) (h : Hp) : va_W := (List.range h.1).map (fun i => (β i, cellOf β cT h i))
theorem wsOf_at {β : Nat → Nat} {cT : CT} {h : Hp} {i : Nat} (hi : i < h.1) : (wsOf β cT h)[i]? = some (β i, cellOf β cT h i) := by
  simp [wsOf, hi]
theorem wsOf_lt {β : Nat → Nat} {cT : CT} {h : Hp} {i : Nat} {q : Nat × va_E} (hq : (wsOf β cT h)[i]? = some q) : i < h.1 ∧ q = (β i, cellOf β cT h i) := by
  have hi : i < h.1 := by
    have := (List.getElem?_eq_some_iff.mp hq).1
    simpa [wsOf] using this
  exact ⟨hi, Option.some.inj (hq.symm.trans (wsOf_at hi))⟩
theorem wsOf_D {β : Nat → Nat} {cT : CT} {h : Hp} {base : Nat} (hβ : ∀ i, i < h.1 → β i = base + i) : va_D (fun q => base ≤ q) (wsOf β cT h) := by
  refine ⟨fun i j x y hi hj hxy => ?_, fun k q hk => ?_⟩
  · obtain ⟨h1, rfl⟩ := wsOf_lt hi
    obtain ⟨h2, rfl⟩ := wsOf_lt hj
    have h3 : β i = β j := hxy
    rw [hβ i h1, hβ j h2] at h3
    omega
  · obtain ⟨h1, rfl⟩ := wsOf_lt hk
    show base ≤ β k
    rw [hβ k h1]
    omega
theorem wsOf_set {β : Nat → Nat} {cT : CT} {h h' : Hp} {i : Nat} (hn : h'.1 = h.1) (hs : ∀ j, j ≠ i → cellOf β cT h' j = cellOf β cT h j) : (wsOf β cT h).set i (β i, cellOf β cT h' i) = wsOf β cT h' := by
  apply List.ext_getElem?
  intro k
  rw [List.getElem?_set]
  by_cases hk : k < h.1
  · rw [wsOf_at (h := h') (by rw [hn]; exact hk), wsOf_at hk]
    by_cases hik : i = k
    · subst hik
      simp [wsOf, hk]
    · rw [if_neg hik, hs k (fun e => hik e.symm)]
  · have e1 : (wsOf β cT h)[k]? = none := by simp [wsOf]; omega
    have e2 : (wsOf β cT h')[k]? = none := by simp [wsOf]; omega
    rw [e1, e2]
    by_cases hik : i = k
    · subst hik
      simp [wsOf]; omega
    · rw [if_neg hik]
theorem wsOf_push {β : Nat → Nat} {cT : CT} {h h' : Hp} (hn : h'.1 = h.1 + 1) (hs : ∀ j, j < h.1 → cellOf β cT h' j = cellOf β cT h j) : wsOf β cT h ++ [(β h.1, cellOf β cT h' h.1)] = wsOf β cT h' := by
  unfold wsOf
  rw [hn, List.range_succ, List.map_append]
  congr 1
  apply List.map_congr_left
  intro j hj
  rw [hs j (List.mem_range.mp hj)]
/-- the cell's form by its shape -/
theorem cell_obj {β : Nat → Nat} {cT : CT} {h : Hp} {i ci : Nat} (hs : shp[i]? = some (.inl ci)) : cellOf β cT h i = .inr (ci, fldsOf β h i ci) := by
  simp [cellOf, hs]
theorem cell_a0 {β : Nat → Nat} {cT : CT} {h : Hp} {i n : Nat} (hs : shp[i]? = some (.inr (0, n))) : cellOf β cT h i = .inl (cT.1, n, .inl (h.2.1 i)) := by
  simp [cellOf, hs]
theorem cell_a1 {β : Nat → Nat} {cT : CT} {h : Hp} {i n : Nat} (hs : shp[i]? = some (.inr (1, n))) : cellOf β cT h i = .inl (cT.2.1, n, .inl (h.2.1 i)) := by
  simp [cellOf, hs]
theorem cell_a2 {β : Nat → Nat} {cT : CT} {h : Hp} {i n : Nat} (hs : shp[i]? = some (.inr (2, n))) : cellOf β cT h i = .inl (cT.2.2, n, .inr (.inr (.inr (.inr (fun j => (h.2.2 i j).map β))))) := by
  simp [cellOf, hs]
/-- a cell depends on its own slots alone -/
theorem cell_same {β : Nat → Nat} {cT : CT} {h h' : Hp} {j : Nat} (h1 : h'.2.1 j = h.2.1 j) (h2 : h'.2.2 j = h.2.2 j) : cellOf β cT h' j = cellOf β cT h j := by
  unfold cellOf fldsOf
  rw [h1, h2]
theorem isO_spec {h : Hp} {i ci : Nat} (e : isO h i ci = true) : i < h.1 ∧ shp[i]? = some (.inl ci) := by
  unfold isO at e
  rw [Bool.and_eq_true] at e
  refine ⟨by simpa using e.1, ?_⟩
  have e2 := e.2
  split at e2
  next c hc => rw [hc, Nat.eq_of_beq_eq_true e2]
  next => cases e2
theorem arrL_spec {h : Hp} {i t n : Nat} (e : arrL h i t = some n) : i < h.1 ∧ shp[i]? = some (.inr (t, n)) := by
  unfold arrL at e
  cases hb : Nat.blt i h.1 with
  | false => rw [hb] at e; cases e
  | true =>
    rw [hb] at e
    refine ⟨by simpa using hb, ?_⟩
    have e2 : (match shp[i]? with
      | some (.inr (t', n)) => bif Nat.beq t' t then some n else none
      | _ => none) = some n := e
    split at e2
    next t' m hm =>
      cases hb2 : Nat.beq t' t with
      | false => rw [hb2] at e2; cases e2
      | true => rw [hb2] at e2; cases e2; rw [hm, Nat.eq_of_beq_eq_true hb2]
    next => cases e2
theorem inB_spec {j : Int32} {n : Nat} (e : inB j n = true) : vp_in j n := by
  unfold inB at e
  rw [Bool.and_eq_true] at e
  have e1 : 0 ≤ j.toInt := by simpa using e.1
  have e2 : j.toNatClampNeg < n := by simpa using e.2
  rintro (h | h)
  · have := Int32.lt_iff_toInt_lt.mp h
    rw [Int32.toInt_zero] at this
    omega
  · omega
theorem nonneg_of {j : Int32} (e : 0 ≤ j.toInt) : ¬ j < 0 := by
  intro h
  have := Int32.lt_iff_toInt_lt.mp h
  rw [Int32.toInt_zero] at this
  omega
theorem shp_len : shp.length = 83 := by decide +kernel
theorem shp_lt {i : Nat} {x : Nat ⊕ Nat × Nat} (h : shp[i]? = some x) : i < 83 := by
  have := (List.getElem?_eq_some_iff.mp h).1
  rw [shp_len] at this
  exact this
theorem szS_succ {n : Nat} {x : Nat ⊕ Nat × Nat} (h : shp[n]? = some x) : szS (n + 1) = szS n + slN x := by
  unfold szS
  rw [List.take_add_one, h, List.map_append, List.sum_append]
  simp
theorem szS_mono {a b : Nat} (h : a ≤ b) : szS a ≤ szS b := by
  induction b with
  | zero => rw [Nat.le_zero.mp h]; exact Nat.le_refl _
  | succ b ih =>
    by_cases hb : a ≤ b
    · refine Nat.le_trans (ih hb) ?_
      cases hx : shp[b]? with
      | none => unfold szS; rw [List.take_add_one, hx]; simp
      | some x => rw [szS_succ hx]; omega
    · rw [show a = b + 1 by omega]; exact Nat.le_refl _
theorem flds_len (β : Nat → Nat) (h : Hp) (i ci : Nat) : (fldsOf β h i ci).length = nF ci := by simp [fldsOf]
theorem flds_at {β : Nat → Nat} {h : Hp} {i ci k : Nat} (hk : k < nF ci) : (fldsOf β h i ci)[k]? = some (cv β (bif isR ci k then rfV (h.2.2 i k) else .int (h.2.1 i k))) := by
  simp only [fldsOf, List.getElem?_map, List.getElem?_range hk, Option.map_some]
  cases isR ci k with
  | true => simp [cv_rf]
  | false => rfl
theorem flds_setI {β : Nat → Nat} {h : Hp} {i ci k : Nat} {x : Int32} (hr : isR ci k = false) : (fldsOf β h i ci).set k (.int x) = fldsOf β (h.1, up2 h.2.1 i k x, h.2.2) i ci := by
  apply List.ext_getElem?
  intro j
  rw [List.getElem?_set]
  by_cases hj : j < nF ci
  · rw [flds_at hj]
    by_cases hkj : k = j
    · subst hkj
      rw [if_pos rfl, if_pos (by rw [flds_len]; exact hj)]
      simp [fldsOf, List.getElem?_range hj, hr, up2]
    · rw [if_neg hkj]
      have hjk : j ≠ k := fun e => hkj e.symm
      simp only [fldsOf, List.getElem?_map, List.getElem?_range hj, Option.map_some]
      cases isR ci j with
      | true => simp [cv_rf]
      | false => simp [cv, up2, hjk]
  · have e1 : ∀ h2 : Hp, (fldsOf β h2 i ci)[j]? = none := fun h2 => List.getElem?_eq_none (by rw [flds_len]; omega)
    rw [e1, e1]
    by_cases hkj : k = j
    · subst hkj
      rw [if_pos rfl, if_neg (by rw [flds_len]; omega)]
    · rw [if_neg hkj]
theorem flds_setR {β : Nat → Nat} {h : Hp} {i ci k : Nat} {x : Nat} (hr : isR ci k = true) : (fldsOf β h i ci).set k (.ref (β x)) = fldsOf β (h.1, h.2.1, up2 h.2.2 i k (some x)) i ci := by
  apply List.ext_getElem?
  intro j
  rw [List.getElem?_set]
  by_cases hj : j < nF ci
  · rw [flds_at hj]
    by_cases hkj : k = j
    · subst hkj
      rw [if_pos rfl, if_pos (by rw [flds_len]; exact hj)]
      simp [fldsOf, List.getElem?_range hj, hr, up2, va_rf]
    · rw [if_neg hkj]
      have hjk : j ≠ k := fun e => hkj e.symm
      simp only [fldsOf, List.getElem?_map, List.getElem?_range hj, Option.map_some]
      cases isR ci j with
      | true => simp [cv_rf, up2, hjk]
      | false => simp [cv]
  · have e1 : ∀ h2 : Hp, (fldsOf β h2 i ci)[j]? = none := fun h2 => List.getElem?_eq_none (by rw [flds_len]; omega)
    rw [e1, e1]
    by_cases hkj : k = j
    · subst hkj
      rw [if_pos rfl, if_neg (by rw [flds_len]; omega)]
    · rw [if_neg hkj]
theorem up2_ne {α : Type} {f : Nat → Nat → α} {i j a : Nat} {v : α} (h : a ≠ i) : up2 f i j v a = f a := by
  unfold up2
  rw [if_neg h]
theorem up2_eq {f : Nat → Nat → Int32} {i j : Nat} {v : Int32} : up2 f i j v i = upd (f i) j v := by
  unfold up2
  rw [if_pos rfl]
  rfl
