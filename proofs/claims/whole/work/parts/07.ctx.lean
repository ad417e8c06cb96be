/-! The classes' own facts; what a state's tables hold; contexts. -/
theorem mem_gTbl_of {ws : List Cond} (h : ws.all (fun w => goodWord w && decide (w ∈ lw_tbl)) = true) : ∀ w ∈ ws, w ∈ gTbl := by
  intro w hw
  have h1 := List.all_eq_true.mp h w hw
  rw [Bool.and_eq_true] at h1
  exact List.mem_filter.mpr ⟨by simpa using h1.2, h1.1⟩
theorem inG_0 : ∀ w ∈ u_ws RX0 TX0 5, w ∈ gTbl := mem_gTbl_of (by decide +kernel)
theorem inG_1 : ∀ w ∈ u_ws RX1 TX1 3, w ∈ gTbl := mem_gTbl_of (by decide +kernel)
theorem inG_2 : ∀ w ∈ u_ws RX2 TX2 17, w ∈ gTbl := mem_gTbl_of (by decide +kernel)
theorem inG_3 : ∀ w ∈ u_ws RX3 TX3 2, w ∈ gTbl := mem_gTbl_of (by decide +kernel)
theorem inG_4 : ∀ w ∈ u_ws RX4 TX4 3, w ∈ gTbl := mem_gTbl_of (by decide +kernel)
theorem inG_5 : ∀ w ∈ u_ws RX5 TX5 3, w ∈ gTbl := mem_gTbl_of (by decide +kernel)
theorem inG_6 : ∀ w ∈ u_ws RX6 TX6 4, w ∈ gTbl := mem_gTbl_of (by decide +kernel)
theorem inG_7 : ∀ w ∈ u_ws RX7 TX7 2, w ∈ gTbl := mem_gTbl_of (by decide +kernel)
theorem inG_8 : ∀ w ∈ u_ws RX8 TX8 14, w ∈ gTbl := mem_gTbl_of (by decide +kernel)
theorem inG_9 : ∀ w ∈ u_ws RX9 TX9 36, w ∈ gTbl := mem_gTbl_of (by decide +kernel)
/-- of a class of the tables: its words, the types of its fields, which are references, which are final -/
def clsP (ci : Nat) (C : String) (T : u_T) (N : Nat) (ty : Nat → FieldType) : Prop :=
  (∀ w ∈ u_ws C T N, w ∈ gTbl) ∧ N = nF ci ∧ C = ownN ci ∧ (∀ k, k < N → parseFieldDescriptor (T k).2.2.1 = some (ty k)) ∧ (∀ a, a < N → ∀ b, b < N → a ≠ b → (T a).2.1 ≠ (T b).2.1) ∧
  ∀ k, k < N → (T k).1 = C ∧ (T k).2.2.2 = finF ci k ∧ (isR ci k = false → ty k = .int) ∧ (isR ci k = true → ty k = .array .int ∨ ty k = .array .byte ∨ ∃ c, ty k = .object c ∨ ty k = .array (.object c))
def fldB (ci : Nat) (C : String) (T : u_T) (ty : Nat → FieldType) (k : Nat) : Bool :=
  decide ((T k).1 = C) && decide ((T k).2.2.2 = finF ci k) && (bif isR ci k then (match ty k with
    | .array .int => true
    | .array .byte => true
    | .object _ => true
    | .array (.object _) => true
    | _ => false) else decide (ty k = .int))
theorem fldB_use {ci : Nat} {C : String} {T : u_T} {ty : Nat → FieldType} {k : Nat} (h : fldB ci C T ty k = true) : (T k).1 = C ∧ (T k).2.2.2 = finF ci k ∧ (isR ci k = false → ty k = .int) ∧ (isR ci k = true → ty k = .array .int ∨ ty k = .array .byte ∨ ∃ c, ty k = .object c ∨ ty k = .array (.object c)) := by
  unfold fldB at h
  rw [Bool.and_eq_true, Bool.and_eq_true] at h
  obtain ⟨⟨h1, h2⟩, h3⟩ := h
  refine ⟨by simpa using h1, by simpa using h2, fun e => ?_, fun e => ?_⟩
  · rw [e] at h3
    simpa using h3
  · rw [e] at h3
    replace h3 : (match ty k with
      | .array .int => true
      | .array .byte => true
      | .object _ => true
      | .array (.object _) => true
      | _ => false) = true := h3
    split at h3
    next e1 => exact Or.inl e1
    next e1 => exact Or.inr (Or.inl e1)
    next c e1 => exact Or.inr (Or.inr ⟨c, Or.inl e1⟩)
    next c e1 => exact Or.inr (Or.inr ⟨c, Or.inr e1⟩)
    next => cases h3
theorem fldB_all {ci : Nat} {C : String} {T : u_T} {ty : Nat → FieldType} {N : Nat} (h : (List.range N).all (fldB ci C T ty) = true) : ∀ k, k < N → (T k).1 = C ∧ (T k).2.2.2 = finF ci k ∧ (isR ci k = false → ty k = .int) ∧ (isR ci k = true → ty k = .array .int ∨ ty k = .array .byte ∨ ∃ c, ty k = .object c ∨ ty k = .array (.object c)) :=
  fun k hk => fldB_use (List.all_eq_true.mp h k (List.mem_range.mpr hk))
theorem cls_0 : clsP 0 RX0 TX0 5 tyX0 := ⟨inG_0, by decide +kernel, rfl, tyX0_ok, nmX0, fldB_all (by decide +kernel)⟩
theorem cls_1 : clsP 1 RX1 TX1 3 tyX1 := ⟨inG_1, by decide +kernel, rfl, tyX1_ok, nmX1, fldB_all (by decide +kernel)⟩
theorem cls_2 : clsP 2 RX2 TX2 17 tyX2 := ⟨inG_2, by decide +kernel, rfl, tyX2_ok, nmX2, fldB_all (by decide +kernel)⟩
theorem cls_3 : clsP 3 RX3 TX3 2 tyX3 := ⟨inG_3, by decide +kernel, rfl, tyX3_ok, nmX3, fldB_all (by decide +kernel)⟩
theorem cls_4 : clsP 4 RX4 TX4 3 tyX4 := ⟨inG_4, by decide +kernel, rfl, tyX4_ok, nmX4, fldB_all (by decide +kernel)⟩
theorem cls_5 : clsP 5 RX5 TX5 3 tyX5 := ⟨inG_5, by decide +kernel, rfl, tyX5_ok, nmX5, fldB_all (by decide +kernel)⟩
theorem cls_6 : clsP 6 RX6 TX6 4 tyX6 := ⟨inG_6, by decide +kernel, rfl, tyX6_ok, nmX6, fldB_all (by decide +kernel)⟩
theorem cls_7 : clsP 7 RX7 TX7 2 tyX7 := ⟨inG_7, by decide +kernel, rfl, tyX7_ok, nmX7, fldB_all (by decide +kernel)⟩
theorem cls_8 : clsP 8 RX8 TX8 14 tyX8 := ⟨inG_8, by decide +kernel, rfl, tyX8_ok, nmX8, fldB_all (by decide +kernel)⟩
theorem cls_9 : clsP 9 RX9 TX9 36 tyX9 := ⟨inG_9, by decide +kernel, rfl, tyX9_ok, nmX9, fldB_all (by decide +kernel)⟩
theorem cls_ok {ci : Nat} {C : String} {T : u_T} {N : Nat} (h : vwCl[ci]? = some (C, T, N)) : ∃ ty, clsP ci C T N ty := by
  match ci, h with
  | 0, h => cases h; exact ⟨_, cls_0⟩
  | 1, h => cases h; exact ⟨_, cls_1⟩
  | 2, h => cases h; exact ⟨_, cls_2⟩
  | 3, h => cases h; exact ⟨_, cls_3⟩
  | 4, h => cases h; exact ⟨_, cls_4⟩
  | 5, h => cases h; exact ⟨_, cls_5⟩
  | 6, h => cases h; exact ⟨_, cls_6⟩
  | 7, h => cases h; exact ⟨_, cls_7⟩
  | 8, h => cases h; exact ⟨_, cls_8⟩
  | 9, h => cases h; exact ⟨_, cls_9⟩
  | n + 10, h => cases h
theorem cls_of_shp {i ci : Nat} (h : shp[i]? = some (.inl ci)) : ∃ C T N, vwCl[ci]? = some (C, T, N) := by
  have h1 : shp.all (fun x => match x with
    | .inl c => Nat.blt c 10
    | .inr (t, n) => Nat.blt t 3 && Nat.ble n 400) = true := by decide +kernel
  have h2 := List.all_eq_true.mp h1 _ (List.mem_of_getElem? h)
  have h3 : ci < 10 := by simpa using h2
  have h4 : ci < vwCl.length := h3
  obtain ⟨C, T, N⟩ := vwCl[ci]'h4
  exact ⟨_, _, _, List.getElem?_eq_getElem h4⟩
theorem arr_of_shp {i t n : Nat} (h : shp[i]? = some (.inr (t, n))) : t < 3 ∧ n ≤ 400 := by
  have h1 : shp.all (fun x => match x with
    | .inl c => Nat.blt c 10
    | .inr (t, n) => Nat.blt t 3 && Nat.ble n 400) = true := by decide +kernel
  have h2 := List.all_eq_true.mp h1 _ (List.mem_of_getElem? h)
  replace h2 : (Nat.blt t 3 && Nat.ble n 400) = true := h2
  rw [Bool.and_eq_true] at h2
  exact ⟨by simpa using h2.1, by simpa using h2.2⟩
def isNest (w : Cond) : Bool := match w with
  | .fieldLinkNest _ _ _ _ _ _ => true
  | .methodLinkNest _ _ _ _ => true
  | _ => false
theorem nW_nest : nW.all isNest = true := by decide +kernel
theorem nest_warm {w : Cond} (hw : w ∈ nW) {s U : State} (hW : s.WarmedH U.vm) (h : va_Nw w s) : va_Nw w U := by
  have h1 := List.all_eq_true.mp nW_nest w hw
  unfold isNest at h1
  split at h1
  next => exact va_Nw.warmF hW h
  next => exact va_Nw.warmM hW h
  next => cases h1
theorem nest_calling {w : Cond} (hw : w ∈ nW) {U V : State} (hV : U.vm = V.vm) (h : va_Nw w U) : va_Nw w V := by
  have h1 := List.all_eq_true.mp nW_nest w hw
  unfold isNest at h1
  split at h1
  next => exact va_tabs rfl hV h
  next => exact va_tabs rfl hV h
  next => cases h1
/-- what is known of a state's tables -/
def KK (D : va_G) (cT : CT) (U : State) : Prop := va_K D vwCl [(cT.1, .int), (cT.2.1, .byte), (cT.2.2, .object RX5)] U ∧ (∀ w ∈ nW, va_Nw w U) ∧ va_AO RX5 U
theorem KK.moved {D : va_G} {cT : CT} {s U : State} (hW : s.WarmedH U.vm) (h : KK D cT s) : KK D cT U :=
  ⟨va_K.moved hW.alike h.1, fun w hw => nest_warm hw hW (h.2.1 w hw), va_AO.moved hW.alike h.2.2⟩
theorem KK.calling {D : va_G} {cT : CT} {U : State} (g : JFrame) (mk : MethodId) (a : Array Value) (h : KK D cT U) : KK D cT (U.calling g mk a) :=
  ⟨va_K.moved (u := U) (U := U.calling g mk a) (Vm.Alike.refl U.vm) h.1, fun w hw => nest_calling (U := U) (V := U.calling g mk a) hw rfl (h.2.1 w hw), va_AO.moved (u := U) (U := U.calling g mk a) (Vm.Alike.refl U.vm) h.2.2⟩
/-- the machine in the middle of a method of the table -/
def Ctx (p : Program) (s : State) (m : MethodId) (args : Array Value) (meth : Method) (c : Code) (D : va_G) (cT : CT) (base : Nat) (me : ME) (Ts : List Cond) (n0 : Nat) : Prop :=
  p.tables.exec = Jvm.exec ∧ c.code = me.2.2.1 ∧ c.maxLocals = me.2.2.2.1 ∧ s.vm.findClass (ownN me.1) = some m.cls ∧ (∀ w ∈ Ts, w.before args s = true) ∧ (∀ w ∈ gTbl, w ∈ Ts) ∧ KK D cT s ∧ s.heap.size = base + n0 ∧ mOK me ∧ (isIni me = true → meth.name = "<init>")
def ScrOK (scr : Option (Nat × (Nat → Int32))) (β : Nat → Nat) (s : State) (base : Nat) : Prop := ∀ L xs, scr = some (L, xs) → va_X (β sId) L xs s s.heap ∧ β sId < s.heap.size ∧ β sId < base
/-- of the heap: no more cells than were made -/
theorem W_size {p : Program} {l : Launch} {e : Env} {R : Room} {s : State} {m : MethodId} {args : Array Value} {below : List Frame} {meth : Method} {c : Code} {H : Heap} {locs : List Loc} {cells slots : Nat} {Q : State → Prop} {g : JFrame} (h : H.size ≤ s.heap.size + cells → W p l e R s m args below meth c H locs cells slots Q g) : W p l e R s m args below meth c H locs cells slots Q g := by
  intro T hT X
  have h1 : T.heap.size ≤ s.heap.size + cells := X.same.2.2.1
  rw [hT] at h1
  exact h h1 T hT X

