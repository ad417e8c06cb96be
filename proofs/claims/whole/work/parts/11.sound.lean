/-! The machine follows zRun: by induction on the fuel, calls and all. -/
theorem mOK_at {me : ME} (h : mOK me) {pc len : Nat} {ins : Instr} (hl : lkp me.2.2.2.2.2.1 pc = some (ins, len)) : decode me.2.2.1 pc = .ok (ins, len) ∧ rOKb me (pc, ins, len) = true ∧ lenOK ins len = true := by
  have h1 := List.all_eq_true.mp h.2 _ (lkp_mem hl)
  simp only [Bool.and_eq_true, decide_eq_true_eq] at h1
  exact ⟨h1.1.1, h1.1.2, h1.2⟩
theorem mOK_name {me : ME} (h : mOK me) : me.2.1.cls = ownN me.1 ∧ plainName me.2.1.cls = true := by
  have h1 := h.1
  unfold nOKb at h1
  rw [Bool.and_eq_true] at h1
  exact ⟨by simpa using h1.1, h1.2⟩
theorem cv_args (β : Nat → Nat) (vs : List Value) : ∀ i, lv_args i (vs.map (cv β)) = cvL β (lv_args i vs) := by
  induction vs with
  | nil => intro i; rfl
  | cons v vs ih =>
    intro i
    simp only [List.map_cons, lv_args, cv_cat, ih]
    rfl
theorem sl_len (β : Nat → Nat) (vs : List Value) : (lg_sl (vs.map (cv β))).length = catS vs := by
  induction vs with
  | nil => rfl
  | cons v vs ih =>
    have e : (lg_sl ((v :: vs).map (cv β))).length = (if (cv β v).category = 2 then 2 else 1) + (lg_sl (vs.map (cv β))).length := by
      simp only [lg_sl, List.map_cons, List.flatMap_cons, List.length_append]
      by_cases hc : (cv β v).category = 2
      · simp [hc]
      · simp [hc]
    rw [e, ih, cv_cat]
    rcases lv_cat v with hc | hc
    · simp [catS, hc]
    · simp [catS, hc]
def QR (β : Nat → Nat) (D : va_G) (cT : CT) (base : Nat) (r : Option Value) (h2 : Hp) : Array Value → State → Outcome → State → Prop := fun _ st oc t => oc = .returned (r.map (cv β)) ∧ va_P D vwCl (wsOf β cT h2) t.heap ∧ va_F (fun q => base ≤ q) st t
theorem z_call {p : Program} {l : Launch} {e : Env} {R : Room} {s : State} {m : MethodId} {args : Array Value} {below : List Frame} {meth : Method} {c : Code} {H : Heap} {locs : List Loc} {cells slots mc ms : Nat} {Q : State → Prop} {β : Nat → Nat} {D : va_G} {cT : CT} {base : Nat} {r : Option Value} {h2 : Hp} {a : Array Value} {free : Addr → Prop} {pc : Nat} {ls : Array Slot} {st0 rest : List Value}
    (hr : va_Run p l e R s m args below meth c H locs cells slots mc ms (F0 m pc ls st0) rest (QR β D cT base r h2 a) free) (hS : va_S (fun q => base ≤ q) s.heap H locs) (hf : ∀ q, free q → base ≤ q)
    (kk : ∀ (H1 : Heap) (locs1 : List Loc), va_P D vwCl (wsOf β cT h2) H1 → va_S (fun q => base ≤ q) s.heap H1 locs1 → W p l e R s m args below meth c H1 locs1 (cells + mc) (slots + ms) Q (F0 m (pc + 3) ls ((r.map (cv β)).toList ++ rest))) :
    W p l e R s m args below meth c H locs cells slots Q (F0 m pc ls st0) := by
  intro T hT X
  obtain ⟨v, st₀, t, T', L, h0, X', hL, e1, e2, ⟨hv, hp, hz, hk⟩, st⟩ := hr T hT X
  cases hv
  rw [h0] at hz hk
  obtain ⟨t2, a1, b1⟩ := kk T'.heap (locs ++ L) (by rw [e1]; exact hp)
    ⟨Nat.le_trans hS.1 (by rw [e1]; exact hz), fun q h1 h2 => by rw [e1, hk q (Nat.lt_of_lt_of_le h1 hS.1) h2]; exact hS.2.1 q h1 h2, fun q hq => by
      rcases List.mem_append.mp hq with h | h
      · exact hS.2.2 q h
      · exact hf _ (hL q h)⟩ T' rfl X'
  exact ⟨t2, st t2 a1, b1⟩
def wsM (me : ME) : List Cond := Cond.code me.2.1 me.2.2.1 me.2.2.2.1 me.2.2.2.2.1 :: gTbl
def rmM (me : ME) (h h2 : Hp) : Room := { frames := me.2.2.2.2.2.2.1, cells := h2.1 - h.1, slots := szS h2.1 - szS h.1, locals := me.2.2.2.2.2.2.2 }
theorem wsM_good {Ts : List Cond} {me : ME} (hG : ∀ w ∈ gTbl, w ∈ Ts) (hc : Cond.code me.2.1 me.2.2.1 me.2.2.2.1 me.2.2.2.2.1 ∈ gTbl) : GoodIn Ts (wsM me) := by
  have key : ∀ w ∈ gTbl, w ∈ Ts ∧ ((w.onTables && w.keeps) = true ∨ ∃ ty, w = .arrayClass ty) := fun w hw => ⟨hG w hw, good_of_word (List.mem_filter.mp hw).2⟩
  intro w hw
  rcases List.mem_cons.mp hw with rfl | hw
  · exact key _ hc
  · exact key _ hw
def PcM (β : Nat → Nat) (D : va_G) (cT : CT) (base : Nat) (as : List Value) (h : Hp) : Array Value → State → Prop := va_Pc (as.map (cv β)) (fun U => U.heap.size = base + h.1 ∧ va_P D vwCl (wsOf β cT h) U.heap ∧ KK D cT U)
theorem PcM_blind {β : Nat → Nat} {D : va_G} {cT : CT} {base : Nat} {as : List Value} {h : Hp} : FrameBlind (PcM β D cT base as h) := by
  intro a U g mk q
  obtain ⟨q0, q1, q2, q3⟩ := q
  exact ⟨q0, q1, q2, q3.calling g mk a⟩
/-- what is to be shown, at a fuel -/
def Body (l : Launch) (D : va_G) (cT : CT) (β : Nat → Nat) (base n : Nat) : Prop :=
  ∀ (p : Program) (e : Env) (R : Room) (s : State) (m : MethodId) (args : Array Value) (below : List Frame) (meth : Method) (c : Code) (scr : Option (Nat × (Nat → Int32))) (me : ME) (Ts : List Cond) (n0 : Nat) (Q : State → Prop) (pc : Nat) (lv : LV) (st : List Value) (h : Hp) (r : Option Value) (h' : Hp) (H : Heap) (locs : List Loc) (ls : Array Slot),
    zRun scr n me pc lv st h = some (r, h') → Ctx p s m args meth c D cT base me Ts n0 → ScrOK scr β s base →
    ((me.2.2.2.2.2.2.1 ≤ R.frames ∧ me.2.2.2.2.2.2.2 ≤ R.locals) ∧ h'.1 - n0 ≤ R.cells ∧ szS h'.1 - szS n0 ≤ R.slots) → n0 ≤ h.1 → h.1 ≤ 83 →
    lv_has ls me.2.2.2.1 (cvL β lv) → va_P D vwCl (wsOf β cT h) H → va_S (fun q => base ≤ q) s.heap H locs →
    (∀ (pc : Nat) (st : List Value) (H : Heap) (locs : List Loc) (ls : Array Slot) (ins : Instr) (len : Nat), decode me.2.2.1 pc = .ok (ins, len) → lenOK ins len = true → zRet me.2.2.2.2.1 ins st = some r → va_P D vwCl (wsOf β cT h') H → va_S (fun q => base ≤ q) s.heap H locs →
      W p l e R s m args below meth c H locs (h'.1 - n0) (szS h'.1 - szS n0) Q (F0 m pc ls (st.map (cv β)))) →
    W p l e R s m args below meth c H locs (h.1 - n0) (szS h.1 - szS n0) Q (F0 m pc ls (st.map (cv β)))
set_option maxHeartbeats 1000000 in
/-- a method's contract out of its body -/
theorem met_of_body {l : Launch} {D : va_G} {cT : CT} {β : Nat → Nat} {base n : Nat} (hB : Body l D cT β base n) {me : ME} (hme : mOK me) {as : List Value} {h h2 : Hp} {r : Option Value} (hrun : zRun none n me 0 (lv_args 0 as) [] h = some (r, h2)) (hcat : catS as ≤ me.2.2.2.1) (h83 : h.1 ≤ 83) :
    Met l me.2.1 (wsM me) (rmM me h h2) (PcM β D cT base as h) (QR β D cT base r h2) (h2.1 - h.1) (szS h2.1 - szS h.1) (fun q => base ≤ q) := by
  refine Met.ofW (cc := me.2.2.1) (maxL := me.2.2.2.1) (ret := me.2.2.2.2.1) (mOK_name hme).2 rfl ?_
  intro p e s m args below meth c s₁ B hml hv
  obtain ⟨rfl, hsz, hP, hK⟩ := hv
  have hl := lv_entry (as.map (cv β)) (n := me.2.2.2.1) (by rw [sl_len]; exact hcat)
  rw [lg_entry_eq]
  generalize (lg_sl (as.map (cv β)) ++ List.replicate (me.2.2.2.1 - (lg_sl (as.map (cv β))).length) Slot.unset).toArray = ls at hl ⊢
  rw [cv_args] at hl
  have hts := atoms_spec (ws := wsM me) B.pre
  have hown : s.vm.findClass (ownN me.1) = some m.cls := by rw [← (mOK_name hme).1]; exact findClass_of_methodNamed B.named
  have hr := B.returns
  have hlk := B.notSynchronized
  have k := hB p e (headSpec (wsM me) (rmM me h h2)).room s m (as.map (cv β)).toArray below meth c none me (wsM me) h.1 (MQ below (QR β D cT base r h2) (as.map (cv β)).toArray s (h2.1 - h.1) (szS h2.1 - szS h.1) (fun q => base ≤ q)) 0 (lv_args 0 as) [] h r h2 s.heap [] ls hrun
    ⟨B.exec, B.bytes, hml, hown, hts, fun w hw => List.mem_cons_of_mem _ hw, hK, hsz, hme, fun hi => by rw [(name_of_methodNamed B.named B.method).1]; simpa [isIni] using hi⟩
    (fun L xs hn => by cases hn) ⟨⟨Nat.le_refl _, Nat.le_refl _⟩, Nat.le_refl _, Nat.le_refl _⟩ (Nat.le_refl _) h83 hl hP va_S.rf ?_
  · rw [Nat.sub_self, Nat.sub_self] at k
    exact k
  · intro pc st H locs ls ins len hd hlen hz hP9 hS9
    cases ins with
    | ireturn =>
      have hlen1 : len = 1 := Nat.eq_of_beq_eq_true hlen
      subst hlen1
      unfold zRet at hz
      dsimp only at hz
      split at hz
      next x =>
        split at hz
        next hrt =>
          cases hz
          exact W.iret (v := x) B.exec B.bytes (by rw [hr, hrt]) (fun t ht hW => ⟨rfl, by rw [ht]; exact hP9, hS9.F ht⟩) hS9.2.2 hd hlk
        next hrt =>
          split at hz
          next hx01 =>
            cases hz
            exact W.zret (v := x) (ty := .boolean) B.exec B.bytes (by rw [hr, hrt]) (by rcases hx01 with rfl | rfl <;> decide +kernel) (fun t ht hW => ⟨rfl, by rw [ht]; exact hP9, hS9.F ht⟩) hS9.2.2 hd hlk
          next => cases hz
        next => cases hz
      next => cases hz
    | areturn =>
      have hlen1 : len = 1 := Nat.eq_of_beq_eq_true hlen
      subst hlen1
      unfold zRet at hz
      dsimp only at hz
      split at hz
      next x =>
        split at hz
        next n0 hrt =>
          cases hz
          exact W.aret (v := .ref (β x)) (rt := .object n0) B.exec B.bytes (by rw [hr, hrt]) (Or.inl ⟨_, rfl⟩) (Or.inr ⟨_, rfl⟩) (fun t ht hW => ⟨rfl, by rw [ht]; exact hP9, hS9.F ht⟩) hS9.2.2 hd hlk
        next n0 hrt =>
          cases hz
          exact W.aret (v := .ref (β x)) (rt := .array n0) B.exec B.bytes (by rw [hr, hrt]) (Or.inr ⟨_, rfl⟩) (Or.inr ⟨_, rfl⟩) (fun t ht hW => ⟨rfl, by rw [ht]; exact hP9, hS9.F ht⟩) hS9.2.2 hd hlk
        next => cases hz
      next => cases hz
    | return_ =>
      have hlen1 : len = 1 := Nat.eq_of_beq_eq_true hlen
      subst hlen1
      unfold zRet at hz
      dsimp only at hz
      split at hz
      next =>
        split at hz
        next hrt =>
          cases hz
          exact W.vret B.exec B.bytes (by rw [hr, hrt]) (fun t ht hW => ⟨rfl, by rw [ht]; exact hP9, hS9.F ht⟩) hS9.2.2 hd hlk
        next => cases hz
      next => cases hz
    | _ => exact nomatch (show (none : Option (Option Value)) = some _ from hz)
