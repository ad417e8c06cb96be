/-! THE CLAIM OUT OF ONE WALK OF THE LAW'S BODY. Your part is whole_start (and what it stands on); all else here is the same for every law, but numbers. -/
def R_law : String := "SandBankLaw"
def lw_P (b : Addr) (xs : List Int32) (args : Array Value) (s : State) : Prop := args = #[.ref b] ∧ s.IntsAt b xs ∧ xs.length ≤ 3072 ∧ (Jvm.Cond.and given_1 narrow_1).before args s = true
def lw_Q (_ : Array Value) (s : State) (o : Outcome) (t : State) : Prop := o = .returned (some (.int 1)) ∧ Framed s o t [] 83 1758
def lw_Z (below : List Frame) (a : Array Value) (s : State) : State → Prop := fun t => ∃ o, t.status = .running ∧ Ended t below o ∧ lw_Q a s o t
/-- the law's own end, with 1 on the stack, nothing written that was there before, its room as the claim has it -/
theorem lw_ret {p : Program} {l : Launch} {e : Env} {s : State} {m : MethodId} {below : List Frame} {meth : Method} {c : Code} {b : Nat} (hx : p.tables.exec = Jvm.exec) (hb : c.code = code) (hr : meth.sig.returnType = ret) (hlocks : meth.locks = false) {pc : Nat} {H : Heap} {ls : Array Slot} (hdg : decode code pc = .ok (.ireturn, 1)) : W p l e room_1 s m #[Value.ref b] below meth c H [] 83 1758 (lw_Z below #[Value.ref b] s) (F0 m pc ls [.int 1]) := by
  intro T hT X
  obtain ⟨fs, hret, hrun, hended, hW, hframe⟩ := X.leave (v := some (.int 1)) (hlocks := hlocks) (fun h => by rw [hr] at h; cases h)
  have hmeth' : T.vm.method? m = some meth := X.method'
  refine ⟨T.setFrames fs, ?_, .returned (some (.int 1)), hrun, hended, rfl, ⟨_, rfl⟩, hW, hframe⟩
  jvm_step X.here [X.here.top, hx, hb, hdg, hmeth', hr, ret, narrow_b1]
  (try refine ⟨rfl, ?_⟩); (try refine ⟨rfl, ?_⟩)
  first | (intro acts; rw [hret _ acts rfl rfl rfl]) | rw [hret _ _ rfl rfl rfl]
  exact Steps.refl _
/-- what holds at the law's entry: the machine, the code, the tables' words (any of lw_tbl by 'hts w (by decide +kernel)'), the script of L ints xs at the cell b, what the Statement gives of the start (any of its parts by flat_of_before) -/
def lw_At (p : Program) (s : State) (m : MethodId) (meth : Method) (c : Code) (b L : Nat) (xs : Nat → Int32) : Prop :=
  p.tables.exec = Jvm.exec ∧ c.code = code ∧ meth.sig.returnType = ret ∧ c.maxLocals = 4 ∧ s.vm.findClass R_law = some m.cls ∧ (∀ w ∈ lw_tbl, w.before #[Value.ref b] s = true) ∧ va_X b L xs s s.heap ∧ b < s.heap.size ∧ meth.locks = false ∧ (Jvm.Cond.and given_1 narrow_1).before #[Value.ref b] s = true

/-- what is left to be shown, of the abstract machine alone -/
def lawGoal : Prop := ∀ (L : Nat) (xs : Nat → Int32), L ≤ 3072 → ∃ (n : Nat) (h' : Hp), zRun (some (L, xs)) n mt_L 0 [(0, .ref sId)] [] (0, (fun _ _ => 0), fun _ _ => none) = some (some (.int 1), h') ∧ h'.1 = 83
theorem nW_in : ∀ w ∈ nW, w ∈ lw_tbl := by
  have h : nW.all (fun w => (tblC 1).contains w || (tblC 2).contains w || (tblC 3).contains w || (tblC 4).contains w || (tblC 5).contains w) = true := by decide +kernel
  intro w hw
  have h1 := List.all_eq_true.mp h w hw
  simp only [Bool.or_eq_true, List.contains_iff_mem] at h1
  rcases h1 with (((h1 | h1) | h1) | h1) | h1
  · exact tblC_in h1
  · exact tblC_in h1
  · exact tblC_in h1
  · exact tblC_in h1
  · exact tblC_in h1
theorem ao_in : Cond.arrayOver (.object RX5) ∈ lw_tbl := tblC_in (c := 1) (List.mem_of_getElem? (i := 233) (by decide +kernel))
theorem inst_0 : Cond.instantiable RX0 5 ∈ lw_tbl := tblC_in (c := 1) (List.mem_of_getElem? (i := 155) (by decide +kernel))
theorem inst_1 : Cond.instantiable RX1 3 ∈ lw_tbl := tblC_in (c := 1) (List.mem_of_getElem? (i := 216) (by decide +kernel))
theorem inst_2 : Cond.instantiable RX2 17 ∈ lw_tbl := tblC_in (c := 1) (List.mem_of_getElem? (i := 53) (by decide +kernel))
theorem inst_3 : Cond.instantiable RX3 2 ∈ lw_tbl := tblC_in (c := 1) (List.mem_of_getElem? (i := 39) (by decide +kernel))
theorem inst_4 : Cond.instantiable RX4 3 ∈ lw_tbl := tblC_in (c := 1) (List.mem_of_getElem? (i := 198) (by decide +kernel))
theorem inst_5 : Cond.instantiable RX5 3 ∈ lw_tbl := tblC_in (c := 1) (List.mem_of_getElem? (i := 136) (by decide +kernel))
theorem inst_6 : Cond.instantiable RX6 4 ∈ lw_tbl := tblC_in (c := 1) (List.mem_of_getElem? (i := 178) (by decide +kernel))
theorem inst_7 : Cond.instantiable RX7 2 ∈ lw_tbl := tblC_in (c := 1) (List.mem_of_getElem? (i := 23) (by decide +kernel))
theorem inst_8 : Cond.instantiable RX8 14 ∈ lw_tbl := tblC_in (c := 1) (List.mem_of_getElem? (i := 15) (by decide +kernel))
theorem inst_9 : Cond.instantiable RX9 36 ∈ lw_tbl := tblC_in (c := 3) (List.mem_of_getElem? (i := 158) (by decide +kernel))
theorem gT_in : ∀ w ∈ gTbl, w ∈ lw_tbl := fun w hw => (List.mem_filter.mp hw).1
theorem arr_known {s : State} {args : Array Value} {ty : FieldType} (h : (Cond.arrayClass ty).before args s = true) : ∃ cA : ClassId, ArrOfT s cA ty ∧ s.vm.findClass ("[" ++ ty.toString) = some cA := by
  obtain ⟨cA, k, comp, h1, h2, h3⟩ := Cond.arrayClass_spec h
  exact ⟨cA, fun n z => ⟨fun k h => (by cases h), k, h2, comp, h3⟩, h1⟩
set_option maxHeartbeats 4000000 in
set_option maxRecDepth 100000 in
/-- THE LAW, from its entry, given what is left -/
theorem whole_open (hlaw : lawGoal) {p : Program} {e : Env} {s : State} {m : MethodId} {below : List Frame} {meth : Method} {c : Code} (l : Launch) {b L : Nat} {xs : Nat → Int32} (hL : L ≤ 3072) (C0 : lw_At p s m meth c b L xs) : W p l e room_1 s m #[Value.ref b] below meth c s.heap [] 0 0 (lw_Z below #[Value.ref b] s) (entryFrame m ([Value.ref b] : List Value).toArray 4) := by
  obtain ⟨hx, hb, hr, hml, hown, hts, hX, hbl, hlocks, hgv⟩ := C0
  obtain ⟨c0, iS0, hKn0⟩ := u_known (C := RX0) (T := TX0) (N := 5) (n := 5) hts (fun w hw => gT_in w (inG_0 w hw)) (hts _ inst_0)
  obtain ⟨c1, iS1, hKn1⟩ := u_known (C := RX1) (T := TX1) (N := 3) (n := 3) hts (fun w hw => gT_in w (inG_1 w hw)) (hts _ inst_1)
  obtain ⟨c2, iS2, hKn2⟩ := u_known (C := RX2) (T := TX2) (N := 17) (n := 17) hts (fun w hw => gT_in w (inG_2 w hw)) (hts _ inst_2)
  obtain ⟨c3, iS3, hKn3⟩ := u_known (C := RX3) (T := TX3) (N := 2) (n := 2) hts (fun w hw => gT_in w (inG_3 w hw)) (hts _ inst_3)
  obtain ⟨c4, iS4, hKn4⟩ := u_known (C := RX4) (T := TX4) (N := 3) (n := 3) hts (fun w hw => gT_in w (inG_4 w hw)) (hts _ inst_4)
  obtain ⟨c5, iS5, hKn5⟩ := u_known (C := RX5) (T := TX5) (N := 3) (n := 3) hts (fun w hw => gT_in w (inG_5 w hw)) (hts _ inst_5)
  obtain ⟨c6, iS6, hKn6⟩ := u_known (C := RX6) (T := TX6) (N := 4) (n := 4) hts (fun w hw => gT_in w (inG_6 w hw)) (hts _ inst_6)
  obtain ⟨c7, iS7, hKn7⟩ := u_known (C := RX7) (T := TX7) (N := 2) (n := 2) hts (fun w hw => gT_in w (inG_7 w hw)) (hts _ inst_7)
  obtain ⟨c8, iS8, hKn8⟩ := u_known (C := RX8) (T := TX8) (N := 14) (n := 14) hts (fun w hw => gT_in w (inG_8 w hw)) (hts _ inst_8)
  obtain ⟨c9, iS9, hKn9⟩ := u_known (C := RX9) (T := TX9) (N := 36) (n := 36) hts (fun w hw => gT_in w (inG_9 w hw)) (hts _ inst_9)
  obtain ⟨dC, dI, hKc⟩ : ∃ (dC : Nat → ClassId) (dI : Nat → Nat → Nat), ∀ (k : Nat) (q : vw_C), vwCl[k]? = some q → u_Kn s q.1 q.2.1 q.2.2 (dC k) (dI k) := by
    refine ⟨fun k => match k with | 0 => c0 | 1 => c1 | 2 => c2 | 3 => c3 | 4 => c4 | 5 => c5 | 6 => c6 | 7 => c7 | 8 => c8 | _ => c9, fun k => match k with | 0 => iS0 | 1 => iS1 | 2 => iS2 | 3 => iS3 | 4 => iS4 | 5 => iS5 | 6 => iS6 | 7 => iS7 | 8 => iS8 | _ => iS9, ?_⟩
    intro k q hq
    match k, hq with
    | 0, hq => cases hq; exact hKn0
    | 1, hq => cases hq; exact hKn1
    | 2, hq => cases hq; exact hKn2
    | 3, hq => cases hq; exact hKn3
    | 4, hq => cases hq; exact hKn4
    | 5, hq => cases hq; exact hKn5
    | 6, hq => cases hq; exact hKn6
    | 7, hq => cases hq; exact hKn7
    | 8, hq => cases hq; exact hKn8
    | 9, hq => cases hq; exact hKn9
    | k + 10, hq => cases hq
  obtain ⟨cI, hI1, hI2⟩ := arr_known (hts _ (gT_in _ arrC_int))
  obtain ⟨cB, hB1, hB2⟩ := arr_known (hts _ (gT_in _ arrC_byte))
  obtain ⟨comp, cS, kS, hS1, -, hS2, hS3, hS4⟩ := Cond.arrayOver_spec (hts _ ao_in)
  have hKK : KK (dC, dI) (cI, cB, cS) s := by
    refine ⟨⟨hKc, fun k q hq => ?_⟩, fun w hw => nest_calling (U := s) (V := s) hw rfl ?_, hts _ ao_in⟩
    · match k, hq with
      | 0, hq => cases hq; exact ⟨hI1, hI2⟩
      | 1, hq => cases hq; exact ⟨hB1, hB2⟩
      | 2, hq => cases hq; exact ⟨fun n z => ⟨fun k h => (by cases h), kS, hS2, comp, hS3⟩, kS, comp, hS2, hS3, hS1, hS4⟩
      | k + 3, hq => cases hq
    · have h1 := List.all_eq_true.mp nW_nest w hw
      have h2 := hts w (nW_in w hw)
      unfold isNest at h1
      split at h1
      next => exact va_tabs (A := #[Value.ref b]) rfl rfl h2
      next => exact va_tabs (A := #[Value.ref b]) rfl rfl h2
      next => cases h1
  obtain ⟨n, h', hrun, h83⟩ := hlaw L xs hL
  obtain ⟨β, hβ, hβs⟩ : ∃ β : Nat → Nat, (∀ i, i < 4096 → β i = s.heap.size + i) ∧ β sId = b := ⟨fun i => if i = 4096 then b else s.heap.size + i, fun i hi => if_neg (by omega), if_pos rfl⟩
  have hl := lv_entry ([.ref b]) (n := 4) (Nat.le_of_ble_eq_true rfl)
  rw [lg_entry_eq]
  generalize (lg_sl ([.ref b]) ++ List.replicate (4 - (lg_sl ([.ref b])).length) Slot.unset).toArray = ls at hl ⊢
  have hl : lv_has ls 4 (cvL β [(0, .ref sId)]) := by
    show lv_has ls 4 [(0, .ref (β sId))]
    rw [hβs]
    exact hl
  have hsz83 : szS 83 = 1758 := by decide +kernel
  have hsz0 : szS 0 = 0 := by decide +kernel
  have k := z_body l (dC, dI) (cI, cB, cS) β s.heap.size hβ n p e room_1 s m #[Value.ref b] below meth c (some (L, xs)) mt_L lw_tbl 0 (lw_Z below #[Value.ref b] s) 0 [(0, .ref sId)] [] (0, (fun _ _ => 0), fun _ _ => none) (some (.int 1)) h' s.heap [] ls hrun
    ⟨hx, hb, hml, hown, hts, gT_in, hKK, rfl, mk_L, fun h => by cases h⟩
    (fun L' xs' hh => by cases hh; rw [hβs]; exact ⟨hX, hbl, hbl⟩)
    ⟨⟨by decide, by decide⟩, by rw [h83]; decide, by rw [h83, hsz83, hsz0]; decide⟩ (Nat.le_refl _) (by decide) hl (fun k q hk => by cases hk) va_S.rf ?_
  · exact k
  · intro pc st H locs ls ins len hd hlen hz hP9 hS9
    rw [h83, hsz83, hsz0]
    cases ins with
    | ireturn =>
      have hlen1 : len = 1 := Nat.eq_of_beq_eq_true hlen
      subst hlen1
      replace hz : (match (generalizing := false) st with
        | [.int x] => if x = 0 ∨ x = 1 then some (some (.int x)) else none
        | _ => none) = some (some (Value.int 1)) := hz
      split at hz
      next x =>
        split at hz
        next => cases hz; exact va_forget (fun q hq => hS9.2.2 q hq) (lw_ret hx hb hr hlocks hd)
        next => cases hz
      next => cases hz
    | areturn =>
      replace hz : (match (generalizing := false) st with
        | [.ref _] => none
        | _ => none) = some (some (Value.int 1)) := hz
      split at hz <;> cases hz
    | return_ =>
      replace hz : (match (generalizing := false) st with
        | [] => none
        | _ => none) = some (some (Value.int 1)) := hz
      split at hz <;> cases hz
    | _ => exact nomatch (show (none : Option (Option Value)) = some _ from hz)

