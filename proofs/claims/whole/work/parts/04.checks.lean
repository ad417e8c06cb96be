/-! What the tables hold, decided by the kernel (written by wip/whole/gen4.py). -/
def gTbl : List Cond := lw_tbl.filter goodWord
def tblC (c : Nat) : List Cond := match c with
  | 0 => k2_sels lw_privs
  | 1 => tables_1_1
  | 2 => tables_1_2
  | 3 => tables_1_3
  | 4 => tables_1_4
  | 5 => tables_1_5
  | _ => []
theorem tblC_in {c : Nat} {w : Cond} (h : w ∈ tblC c) : w ∈ lw_tbl := by
  unfold lw_tbl tables_1
  match c, h with
  | 0, h => exact List.mem_append_left _ h
  | 1, h => exact List.mem_append_right _ (List.mem_append_left _ h)
  | 2, h => exact List.mem_append_right _ (List.mem_append_right _ (List.mem_append_left _ h))
  | 3, h => exact List.mem_append_right _ (List.mem_append_right _ (List.mem_append_right _ (List.mem_append_left _ h)))
  | 4, h => exact List.mem_append_right _ (List.mem_append_right _ (List.mem_append_right _ (List.mem_append_right _ (List.mem_append_left _ h))))
  | 5, h => exact List.mem_append_right _ (List.mem_append_right _ (List.mem_append_right _ (List.mem_append_right _ (List.mem_append_right _ h))))
  | n + 6, h => exact absurd h List.not_mem_nil
/-- the word at a place: 1000 times the table's number, and the place in it -/
def inT (i : Nat) (w : Cond) : Bool := decide ((tblC (i / 1000))[i % 1000]? = some w) && goodWord w
theorem inT_mem {i : Nat} {w : Cond} (h : inT i w = true) : w ∈ gTbl := by
  simp only [inT, Bool.and_eq_true, decide_eq_true_eq] at h
  exact List.mem_filter.mpr ⟨tblC_in (List.mem_of_getElem? h.1), h.2⟩
def pFld (ci k : Nat) (f : String → String → String → Bool) : Bool := match vwCl[ci]? with
  | some (_, T, N) => Nat.blt k N && f (T k).1 (T k).2.1 (T k).2.2.1
  | none => false
def pMe (k b : Nat) (f : ME → Bool) : Bool := match MT[k]? with
  | some me => decide (me.2.1.cls ≠ "java/lang/invoke/MethodHandle") && decide (me.2.1.cls ≠ "java/lang/invoke/VarHandle") && decide ((parseMethodDescriptor me.2.1.desc).map (fun d => d.parameters.length) = some b) && f me
  | none => false
def pCode (i : Nat) (me : ME) : Bool := inT i (.code me.2.1 me.2.2.1 me.2.2.2.1 me.2.2.2.2.1)
def pOKb (own ix : Nat) (e : PE) (ps : List Nat) : Bool := match e.1 with
  | 0 => (match ps with
    | [a] => pFld e.2.1 e.2.2.1 (fun C n d => inT a (.fieldLink (ownN own) ix C n d))
    | _ => false)
  | 1 => pFld e.2.1 e.2.2.1 (fun C n d => decide (Cond.fieldLinkNest (ownN own) ix C n d "SandBank" ∈ nW))
  | 2 => (match ps with
    | [a, b, c, d, g] => pMe e.2.1 e.2.2.1 (fun me => inT a (.methodLink (ownN own) ix me.2.1) && inT b (.instanceMethod me.2.1) && inT c (.selects me.2.1.cls me.2.1 me.2.1) && inT d (.initialized me.2.1.cls) && pCode g me)
    | _ => false)
  | 3 => (match ps with
    | [a, b, d, g] => pMe e.2.1 e.2.2.1 (fun me => inT a (.methodLink (ownN own) ix me.2.1) && inT b (.static me.2.1) && inT d (.initialized me.2.1.cls) && pCode g me)
    | _ => false)
  | 4 => (match ps with
    | [a, b, d, g] => pMe e.2.1 e.2.2.1 (fun me => inT a (.methodLink (ownN own) ix me.2.1) && inT b (.instanceMethod me.2.1) && inT d (.initialized me.2.1.cls) && pCode g me && decide (me.2.1.name = "<init>") && decide (me.2.2.2.2.1 = none))
    | _ => false)
  | 5 => (match ps with
    | [_, b, d, g] => pMe e.2.1 e.2.2.1 (fun me => decide (Cond.methodLinkNest (ownN own) ix me.2.1 "SandBank" ∈ nW) && inT b (.instanceMethod me.2.1) && inT d (.initialized me.2.1.cls) && pCode g me && decide (me.2.1.name = "<init>") && decide (me.2.2.2.2.1 = none))
    | _ => false)
  | 6 => (match ps with
    | [_, b, d, g] => pMe e.2.1 e.2.2.1 (fun me => decide (Cond.methodLinkNest (ownN own) ix me.2.1 "SandBank" ∈ nW) && inT b (.static me.2.1) && inT d (.initialized me.2.1.cls) && pCode g me)
    | _ => false)
  | 7 => (match ps with
    | [a, b, c] => inT a (.methodLink (ownN own) ix Lib.objectInit) && inT b (.instanceMethod Lib.objectInit) && inT c (.code Lib.objectInit ⟨#[0xb1]⟩ 1 none)
    | _ => false)
  | 8 => (match ps with
    | [a, b, c, d] => inT a (.methodLink (ownN own) ix arraycopyName) && inT b (.native arraycopyName) && inT c (.static arraycopyName) && inT d (.initialized "java/lang/System")
    | _ => false)
  | 9 => (match ps with
    | [a] => inT a (.constant (ownN own) ix (Int32.ofInt e.2.2.2))
    | _ => false)
  | 10 => (match ps with
    | [a] => inT a (.constantLong (ownN own) ix (Int64.ofInt e.2.2.2))
    | _ => false)
  | 13 => (match ps with
    | [a, b, c, d] => inT a (.methodLink (ownN own) ix Lib.Math.max.name) && inT b (.static Lib.Math.max.name) && inT c (.initialized "java/lang/Math") && inT d (.code Lib.Math.max.name Lib.Math.max.code 2 (some .int))
    | _ => false)
  | 14 => (match ps with
    | [a, b, c, d] => inT a (.methodLink (ownN own) ix Lib.Math.min.name) && inT b (.static Lib.Math.min.name) && inT c (.initialized "java/lang/Math") && inT d (.code Lib.Math.min.name Lib.Math.min.code 2 (some .int))
    | _ => false)
  | 11 => (match vwCl[e.2.1]? with
    | some (C, _, N) => (match ps with
      | [a, b, c] => inT a (.classLink (ownN own) ix C) && inT b (.instantiable C N) && inT c (.initialized C)
      | _ => false)
    | none => false)
  | _ => false
def pAll (own : Nat) (ps : List (Nat × List Nat)) (l : List (Nat × PE)) : Bool := l.all fun x => match lkp ps x.1 with
  | some p => pOKb own x.1 x.2 p
  | none => false
theorem all_td {α : Type} {f : α → Bool} {l : List α} (n : Nat) (h1 : (l.take n).all f = true) (h2 : (l.drop n).all f = true) : l.all f = true := by
  rw [← List.take_append_drop n l, List.all_append, h1, h2]
  rfl

theorem pAll_0_0 : pAll 0 ppos0 ((pool0.drop 0).take 20) = true := by decide +kernel
theorem pAll_0 : pAll 0 ppos0 (poolOf 0) = true := by
  show (pool0).all _ = true
  rw [show pool0 = pool0.drop 0 from rfl]
  refine all_td 20 pAll_0_0 ?_
  rw [List.drop_drop]
  rfl
theorem pAll_1_0 : pAll 1 ppos1 ((pool1.drop 0).take 20) = true := by decide +kernel
theorem pAll_1 : pAll 1 ppos1 (poolOf 1) = true := by
  show (pool1).all _ = true
  rw [show pool1 = pool1.drop 0 from rfl]
  refine all_td 20 pAll_1_0 ?_
  rw [List.drop_drop]
  rfl
theorem pAll_2_0 : pAll 2 ppos2 ((pool2.drop 0).take 20) = true := by decide +kernel
theorem pAll_2_20 : pAll 2 ppos2 ((pool2.drop 20).take 20) = true := by decide +kernel
theorem pAll_2 : pAll 2 ppos2 (poolOf 2) = true := by
  show (pool2).all _ = true
  rw [show pool2 = pool2.drop 0 from rfl]
  refine all_td 20 pAll_2_0 ?_
  rw [List.drop_drop]
  refine all_td 20 pAll_2_20 ?_
  rw [List.drop_drop]
  rfl
theorem pAll_3_0 : pAll 3 ppos3 ((pool3.drop 0).take 20) = true := by decide +kernel
theorem pAll_3 : pAll 3 ppos3 (poolOf 3) = true := by
  show (pool3).all _ = true
  rw [show pool3 = pool3.drop 0 from rfl]
  refine all_td 20 pAll_3_0 ?_
  rw [List.drop_drop]
  rfl
theorem pAll_4_0 : pAll 4 ppos4 ((pool4.drop 0).take 20) = true := by decide +kernel
theorem pAll_4 : pAll 4 ppos4 (poolOf 4) = true := by
  show (pool4).all _ = true
  rw [show pool4 = pool4.drop 0 from rfl]
  refine all_td 20 pAll_4_0 ?_
  rw [List.drop_drop]
  rfl
theorem pAll_5_0 : pAll 5 ppos5 ((pool5.drop 0).take 20) = true := by decide +kernel
theorem pAll_5_20 : pAll 5 ppos5 ((pool5.drop 20).take 20) = true := by decide +kernel
theorem pAll_5 : pAll 5 ppos5 (poolOf 5) = true := by
  show (pool5).all _ = true
  rw [show pool5 = pool5.drop 0 from rfl]
  refine all_td 20 pAll_5_0 ?_
  rw [List.drop_drop]
  refine all_td 20 pAll_5_20 ?_
  rw [List.drop_drop]
  rfl
theorem pAll_6_0 : pAll 6 ppos6 ((pool6.drop 0).take 20) = true := by decide +kernel
theorem pAll_6 : pAll 6 ppos6 (poolOf 6) = true := by
  show (pool6).all _ = true
  rw [show pool6 = pool6.drop 0 from rfl]
  refine all_td 20 pAll_6_0 ?_
  rw [List.drop_drop]
  rfl
theorem pAll_7_0 : pAll 7 ppos7 ((pool7.drop 0).take 20) = true := by decide +kernel
theorem pAll_7 : pAll 7 ppos7 (poolOf 7) = true := by
  show (pool7).all _ = true
  rw [show pool7 = pool7.drop 0 from rfl]
  refine all_td 20 pAll_7_0 ?_
  rw [List.drop_drop]
  rfl
theorem pAll_8_0 : pAll 8 ppos8 ((pool8.drop 0).take 20) = true := by decide +kernel
theorem pAll_8_20 : pAll 8 ppos8 ((pool8.drop 20).take 20) = true := by decide +kernel
theorem pAll_8_40 : pAll 8 ppos8 ((pool8.drop 40).take 20) = true := by decide +kernel
theorem pAll_8_60 : pAll 8 ppos8 ((pool8.drop 60).take 20) = true := by decide +kernel
theorem pAll_8_80 : pAll 8 ppos8 ((pool8.drop 80).take 20) = true := by decide +kernel
theorem pAll_8 : pAll 8 ppos8 (poolOf 8) = true := by
  show (pool8).all _ = true
  rw [show pool8 = pool8.drop 0 from rfl]
  refine all_td 20 pAll_8_0 ?_
  rw [List.drop_drop]
  refine all_td 20 pAll_8_20 ?_
  rw [List.drop_drop]
  refine all_td 20 pAll_8_40 ?_
  rw [List.drop_drop]
  refine all_td 20 pAll_8_60 ?_
  rw [List.drop_drop]
  refine all_td 20 pAll_8_80 ?_
  rw [List.drop_drop]
  rfl
theorem pAll_9_0 : pAll 9 ppos9 ((pool9.drop 0).take 20) = true := by decide +kernel
theorem pAll_9_20 : pAll 9 ppos9 ((pool9.drop 20).take 20) = true := by decide +kernel
theorem pAll_9_40 : pAll 9 ppos9 ((pool9.drop 40).take 20) = true := by decide +kernel
theorem pAll_9_60 : pAll 9 ppos9 ((pool9.drop 60).take 20) = true := by decide +kernel
theorem pAll_9_80 : pAll 9 ppos9 ((pool9.drop 80).take 20) = true := by decide +kernel
theorem pAll_9 : pAll 9 ppos9 (poolOf 9) = true := by
  show (pool9).all _ = true
  rw [show pool9 = pool9.drop 0 from rfl]
  refine all_td 20 pAll_9_0 ?_
  rw [List.drop_drop]
  refine all_td 20 pAll_9_20 ?_
  rw [List.drop_drop]
  refine all_td 20 pAll_9_40 ?_
  rw [List.drop_drop]
  refine all_td 20 pAll_9_60 ?_
  rw [List.drop_drop]
  refine all_td 20 pAll_9_80 ?_
  rw [List.drop_drop]
  rfl
theorem pAll_10_0 : pAll 10 ppos10 ((pool10.drop 0).take 20) = true := by decide +kernel
theorem pAll_10_20 : pAll 10 ppos10 ((pool10.drop 20).take 20) = true := by decide +kernel
theorem pAll_10_40 : pAll 10 ppos10 ((pool10.drop 40).take 20) = true := by decide +kernel
theorem pAll_10 : pAll 10 ppos10 (poolOf 10) = true := by
  show (pool10).all _ = true
  rw [show pool10 = pool10.drop 0 from rfl]
  refine all_td 20 pAll_10_0 ?_
  rw [List.drop_drop]
  refine all_td 20 pAll_10_20 ?_
  rw [List.drop_drop]
  refine all_td 20 pAll_10_40 ?_
  rw [List.drop_drop]
  rfl
theorem pAll_11_0 : pAll 11 ppos11 ((pool11.drop 0).take 20) = true := by decide +kernel
theorem pAll_11 : pAll 11 ppos11 (poolOf 11) = true := by
  show (pool11).all _ = true
  rw [show pool11 = pool11.drop 0 from rfl]
  refine all_td 20 pAll_11_0 ?_
  rw [List.drop_drop]
  rfl
theorem lkp_mem {α : Type} {l : List (Nat × α)} {i : Nat} {v : α} (h : lkp l i = some v) : (i, v) ∈ l := by
  induction l with
  | nil => cases h
  | cons e r ih =>
    unfold lkp at h
    cases hb : Nat.beq e.1 i with
    | true =>
      rw [hb] at h
      have h1 : e.1 = i := Nat.eq_of_beq_eq_true hb
      have h2 : e.2 = v := Option.some.inj h
      rw [← h1, ← h2]
      exact List.mem_cons_self
    | false =>
      rw [hb] at h
      exact List.mem_cons_of_mem _ (ih h)
theorem pAll_use {own : Nat} {ps : List (Nat × List Nat)} (h : pAll own ps (poolOf own) = true) {ix : Nat} {e : PE} (hl : lkp (poolOf own) ix = some e) : ∃ p, pOKb own ix e p = true := by
  have h1 := List.all_eq_true.mp h _ (lkp_mem hl)
  dsimp only at h1
  split at h1
  · exact ⟨_, h1⟩
  · cases h1
theorem pool_ok {own ix : Nat} {e : PE} (hl : lkp (poolOf own) ix = some e) : ∃ p, pOKb own ix e p = true := by
  match own, hl with

  | 0, hl => exact pAll_use pAll_0 hl
  | 1, hl => exact pAll_use pAll_1 hl
  | 2, hl => exact pAll_use pAll_2 hl
  | 3, hl => exact pAll_use pAll_3 hl
  | 4, hl => exact pAll_use pAll_4 hl
  | 5, hl => exact pAll_use pAll_5 hl
  | 6, hl => exact pAll_use pAll_6 hl
  | 7, hl => exact pAll_use pAll_7 hl
  | 8, hl => exact pAll_use pAll_8 hl
  | 9, hl => exact pAll_use pAll_9 hl
  | 10, hl => exact pAll_use pAll_10 hl
  | 11, hl => exact pAll_use pAll_11 hl
  | n + 12, hl => cases hl
/-- of a method: its code is what decode gives, its class's name, the room of what it calls -/
def rOKb (me : ME) (e : Nat × Instr × Nat) : Bool := match e.2.1 with
  | .invokevirtual ix => rOK2 me ix
  | .invokespecial ix => rOK2 me ix
  | .invokestatic ix => rOK2 me ix
  | _ => true
  where rOK2 (me : ME) (ix : Nat) : Bool := match lkp (poolOf me.1) ix with
    | some (7, _) => Nat.ble 1 me.2.2.2.2.2.2.1 && Nat.ble 20 me.2.2.2.2.2.2.2
    | some (13, _) => Nat.ble 1 me.2.2.2.2.2.2.1 && Nat.ble 40 me.2.2.2.2.2.2.2
    | some (14, _) => Nat.ble 1 me.2.2.2.2.2.2.1 && Nat.ble 40 me.2.2.2.2.2.2.2
    | some (8, _) => Nat.ble 1 me.2.2.2.2.2.2.1 && Nat.ble 40 me.2.2.2.2.2.2.2
    | some (_, k, _) => (match MT[k]? with
      | some me' => Nat.ble (me'.2.2.2.2.2.2.1 + 1) me.2.2.2.2.2.2.1 && Nat.ble (8 + (me'.2.2.2.1 + 11) + me'.2.2.2.2.2.2.2) me.2.2.2.2.2.2.2
      | none => false)
    | none => false
def cOKb (me : ME) (l : CL) : Bool := l.all (fun e => decide (decode me.2.2.1 e.1 = .ok e.2) && rOKb me e && lenOK e.2.1 e.2.2)
def nOKb (me : ME) : Bool := decide (me.2.1.cls = ownN me.1) && plainName me.2.1.cls
def mOK (me : ME) : Prop := nOKb me = true ∧ cOKb me me.2.2.2.2.2.1 = true

theorem mk_X0_init : mOK mt_X0_init := ⟨by decide +kernel, by decide +kernel⟩
theorem mk_X0_noteTurn : mOK mt_X0_noteTurn := ⟨by decide +kernel, by decide +kernel⟩
theorem mk_X0_notePouring : mOK mt_X0_notePouring := ⟨by decide +kernel, by decide +kernel⟩
theorem mk_X0_makeRoom : mOK mt_X0_makeRoom := ⟨by decide +kernel, by decide +kernel⟩
theorem mk_X0_takeBack : mOK mt_X0_takeBack := ⟨by decide +kernel, by decide +kernel⟩
theorem mk_X1_init : mOK mt_X1_init := ⟨by decide +kernel, by decide +kernel⟩
theorem mk_X1_pass : mOK mt_X1_pass := ⟨by decide +kernel, by decide +kernel⟩
theorem mk_X1_befall_0 : cOKb mt_X1_befall ((kc_X1_befall.drop 0).take 60) = true := by decide +kernel
theorem mk_X1_befall_60 : cOKb mt_X1_befall ((kc_X1_befall.drop 60).take 60) = true := by decide +kernel
theorem mk_X1_befall : mOK mt_X1_befall := by
  refine ⟨by decide +kernel, ?_⟩
  show (kc_X1_befall).all _ = true
  rw [show kc_X1_befall = kc_X1_befall.drop 0 from rfl]
  refine all_td 60 mk_X1_befall_0 ?_
  rw [List.drop_drop]
  refine all_td 60 mk_X1_befall_60 ?_
  rw [List.drop_drop]
  decide +kernel
theorem mk_X1_lose : mOK mt_X1_lose := ⟨by decide +kernel, by decide +kernel⟩
theorem mk_X1_draw : mOK mt_X1_draw := ⟨by decide +kernel, by decide +kernel⟩
theorem mk_X2_init_0 : cOKb mt_X2_init ((kc_X2_init.drop 0).take 60) = true := by decide +kernel
theorem mk_X2_init_60 : cOKb mt_X2_init ((kc_X2_init.drop 60).take 60) = true := by decide +kernel
theorem mk_X2_init : mOK mt_X2_init := by
  refine ⟨by decide +kernel, ?_⟩
  show (kc_X2_init).all _ = true
  rw [show kc_X2_init = kc_X2_init.drop 0 from rfl]
  refine all_td 60 mk_X2_init_0 ?_
  rw [List.drop_drop]
  refine all_td 60 mk_X2_init_60 ?_
  rw [List.drop_drop]
  decide +kernel
theorem mk_X2_clear : mOK mt_X2_clear := ⟨by decide +kernel, by decide +kernel⟩
theorem mk_X2_isTold : mOK mt_X2_isTold := ⟨by decide +kernel, by decide +kernel⟩
theorem mk_X2_addGlass_0 : cOKb mt_X2_addGlass ((kc_X2_addGlass.drop 0).take 60) = true := by decide +kernel
theorem mk_X2_addGlass_60 : cOKb mt_X2_addGlass ((kc_X2_addGlass.drop 60).take 60) = true := by decide +kernel
theorem mk_X2_addGlass : mOK mt_X2_addGlass := by
  refine ⟨by decide +kernel, ?_⟩
  show (kc_X2_addGlass).all _ = true
  rw [show kc_X2_addGlass = kc_X2_addGlass.drop 0 from rfl]
  refine all_td 60 mk_X2_addGlass_0 ?_
  rw [List.drop_drop]
  refine all_td 60 mk_X2_addGlass_60 ?_
  rw [List.drop_drop]
  decide +kernel
theorem mk_X2_addTie : mOK mt_X2_addTie := ⟨by decide +kernel, by decide +kernel⟩
theorem mk_X2_addClerk : mOK mt_X2_addClerk := ⟨by decide +kernel, by decide +kernel⟩
theorem mk_X2_setPartner : mOK mt_X2_setPartner := ⟨by decide +kernel, by decide +kernel⟩
theorem mk_X2_setRisks : mOK mt_X2_setRisks := ⟨by decide +kernel, by decide +kernel⟩
theorem mk_X2_bindTies : mOK mt_X2_bindTies := ⟨by decide +kernel, by decide +kernel⟩
theorem mk_X2_tiedToSome : mOK mt_X2_tiedToSome := ⟨by decide +kernel, by decide +kernel⟩
theorem mk_X3_init : mOK mt_X3_init := ⟨by decide +kernel, by decide +kernel⟩
theorem mk_X3_readText : mOK mt_X3_readText := ⟨by decide +kernel, by decide +kernel⟩
theorem mk_X3_readItem_0 : cOKb mt_X3_readItem ((kc_X3_readItem.drop 0).take 60) = true := by decide +kernel
theorem mk_X3_readItem_60 : cOKb mt_X3_readItem ((kc_X3_readItem.drop 60).take 60) = true := by decide +kernel
theorem mk_X3_readItem : mOK mt_X3_readItem := by
  refine ⟨by decide +kernel, ?_⟩
  show (kc_X3_readItem).all _ = true
  rw [show kc_X3_readItem = kc_X3_readItem.drop 0 from rfl]
  refine all_td 60 mk_X3_readItem_0 ?_
  rw [List.drop_drop]
  refine all_td 60 mk_X3_readItem_60 ?_
  rw [List.drop_drop]
  decide +kernel
theorem mk_X3_numbersOf : mOK mt_X3_numbersOf := ⟨by decide +kernel, by decide +kernel⟩
theorem mk_X3_readNumber : mOK mt_X3_readNumber := ⟨by decide +kernel, by decide +kernel⟩
theorem mk_X3_addItem_0 : cOKb mt_X3_addItem ((kc_X3_addItem.drop 0).take 60) = true := by decide +kernel
theorem mk_X3_addItem_60 : cOKb mt_X3_addItem ((kc_X3_addItem.drop 60).take 60) = true := by decide +kernel
theorem mk_X3_addItem : mOK mt_X3_addItem := by
  refine ⟨by decide +kernel, ?_⟩
  show (kc_X3_addItem).all _ = true
  rw [show kc_X3_addItem = kc_X3_addItem.drop 0 from rfl]
  refine all_td 60 mk_X3_addItem_0 ?_
  rw [List.drop_drop]
  refine all_td 60 mk_X3_addItem_60 ?_
  rw [List.drop_drop]
  decide +kernel
theorem mk_X4_init : mOK mt_X4_init := ⟨by decide +kernel, by decide +kernel⟩
theorem mk_X4_search_0 : cOKb mt_X4_search ((kc_X4_search.drop 0).take 60) = true := by decide +kernel
theorem mk_X4_search_60 : cOKb mt_X4_search ((kc_X4_search.drop 60).take 60) = true := by decide +kernel
theorem mk_X4_search : mOK mt_X4_search := by
  refine ⟨by decide +kernel, ?_⟩
  show (kc_X4_search).all _ = true
  rw [show kc_X4_search = kc_X4_search.drop 0 from rfl]
  refine all_td 60 mk_X4_search_0 ?_
  rw [List.drop_drop]
  refine all_td 60 mk_X4_search_60 ?_
  rw [List.drop_drop]
  decide +kernel
theorem mk_X4_stoodBy : mOK mt_X4_stoodBy := ⟨by decide +kernel, by decide +kernel⟩
theorem mk_X4_stepRow : mOK mt_X4_stepRow := ⟨by decide +kernel, by decide +kernel⟩
theorem mk_X5_init : mOK mt_X5_init := ⟨by decide +kernel, by decide +kernel⟩
theorem mk_X5_fill : mOK mt_X5_fill := ⟨by decide +kernel, by decide +kernel⟩
theorem mk_X5_copyFrom : mOK mt_X5_copyFrom := ⟨by decide +kernel, by decide +kernel⟩
theorem mk_X5_upperSide : mOK mt_X5_upperSide := ⟨by decide +kernel, by decide +kernel⟩
theorem mk_X5_upperBulb : mOK mt_X5_upperBulb := ⟨by decide +kernel, by decide +kernel⟩
theorem mk_X5_flip : mOK mt_X5_flip := ⟨by decide +kernel, by decide +kernel⟩
theorem mk_X5_move : mOK mt_X5_move := ⟨by decide +kernel, by decide +kernel⟩
theorem mk_X5_goOn : mOK mt_X5_goOn := ⟨by decide +kernel, by decide +kernel⟩
theorem mk_X5_letClerksTurn : mOK mt_X5_letClerksTurn := ⟨by decide +kernel, by decide +kernel⟩
theorem mk_X5_letSandFall : mOK mt_X5_letSandFall := ⟨by decide +kernel, by decide +kernel⟩
theorem mk_X5_flowIn : mOK mt_X5_flowIn := ⟨by decide +kernel, by decide +kernel⟩
theorem mk_X5_standing : mOK mt_X5_standing := ⟨by decide +kernel, by decide +kernel⟩
theorem mk_X5_minutesLeft : mOK mt_X5_minutesLeft := ⟨by decide +kernel, by decide +kernel⟩
theorem mk_X5_grainsOf_0 : cOKb mt_X5_grainsOf ((kc_X5_grainsOf.drop 0).take 60) = true := by decide +kernel
theorem mk_X5_grainsOf_60 : cOKb mt_X5_grainsOf ((kc_X5_grainsOf.drop 60).take 60) = true := by decide +kernel
theorem mk_X5_grainsOf : mOK mt_X5_grainsOf := by
  refine ⟨by decide +kernel, ?_⟩
  show (kc_X5_grainsOf).all _ = true
  rw [show kc_X5_grainsOf = kc_X5_grainsOf.drop 0 from rfl]
  refine all_td 60 mk_X5_grainsOf_0 ?_
  rw [List.drop_drop]
  refine all_td 60 mk_X5_grainsOf_60 ?_
  rw [List.drop_drop]
  decide +kernel
theorem mk_X6_init : mOK mt_X6_init := ⟨by decide +kernel, by decide +kernel⟩
theorem mk_X6_note : mOK mt_X6_note := ⟨by decide +kernel, by decide +kernel⟩
theorem mk_X6_missing : mOK mt_X6_missing := ⟨by decide +kernel, by decide +kernel⟩
theorem mk_X6_till : mOK mt_X6_till := ⟨by decide +kernel, by decide +kernel⟩
theorem mk_X6_since : mOK mt_X6_since := ⟨by decide +kernel, by decide +kernel⟩
theorem mk_X6_falseOnes : mOK mt_X6_falseOnes := ⟨by decide +kernel, by decide +kernel⟩
theorem mk_X6_exceedsEarlier : mOK mt_X6_exceedsEarlier := ⟨by decide +kernel, by decide +kernel⟩
theorem mk_X7_init : mOK mt_X7_init := ⟨by decide +kernel, by decide +kernel⟩
theorem mk_X7_append : mOK mt_X7_append := ⟨by decide +kernel, by decide +kernel⟩
theorem mk_X7_at : mOK mt_X7_at := ⟨by decide +kernel, by decide +kernel⟩
theorem mk_X8_init_0 : cOKb mt_X8_init ((kc_X8_init.drop 0).take 60) = true := by decide +kernel
theorem mk_X8_init_60 : cOKb mt_X8_init ((kc_X8_init.drop 60).take 60) = true := by decide +kernel
theorem mk_X8_init : mOK mt_X8_init := by
  refine ⟨by decide +kernel, ?_⟩
  show (kc_X8_init).all _ = true
  rw [show kc_X8_init = kc_X8_init.drop 0 from rfl]
  refine all_td 60 mk_X8_init_0 ?_
  rw [List.drop_drop]
  refine all_td 60 mk_X8_init_60 ?_
  rw [List.drop_drop]
  decide +kernel
theorem mk_X8_write : mOK mt_X8_write := ⟨by decide +kernel, by decide +kernel⟩
theorem mk_X8_wipe : mOK mt_X8_wipe := ⟨by decide +kernel, by decide +kernel⟩
theorem mk_X8_fault : mOK mt_X8_fault := ⟨by decide +kernel, by decide +kernel⟩
theorem mk_X8_lay : mOK mt_X8_lay := ⟨by decide +kernel, by decide +kernel⟩
theorem mk_X8_glass : mOK mt_X8_glass := ⟨by decide +kernel, by decide +kernel⟩
theorem mk_X8_has : mOK mt_X8_has := ⟨by decide +kernel, by decide +kernel⟩
theorem mk_X8_minutes : mOK mt_X8_minutes := ⟨by decide +kernel, by decide +kernel⟩
theorem mk_X8_turn : mOK mt_X8_turn := ⟨by decide +kernel, by decide +kernel⟩
theorem mk_X8_pour_0 : cOKb mt_X8_pour ((kc_X8_pour.drop 0).take 60) = true := by decide +kernel
theorem mk_X8_pour_60 : cOKb mt_X8_pour ((kc_X8_pour.drop 60).take 60) = true := by decide +kernel
theorem mk_X8_pour : mOK mt_X8_pour := by
  refine ⟨by decide +kernel, ?_⟩
  show (kc_X8_pour).all _ = true
  rw [show kc_X8_pour = kc_X8_pour.drop 0 from rfl]
  refine all_td 60 mk_X8_pour_0 ?_
  rw [List.drop_drop]
  refine all_td 60 mk_X8_pour_60 ?_
  rw [List.drop_drop]
  decide +kernel
theorem mk_X8_undo : mOK mt_X8_undo := ⟨by decide +kernel, by decide +kernel⟩
theorem mk_X8_later : mOK mt_X8_later := ⟨by decide +kernel, by decide +kernel⟩
theorem mk_X8_falls_0 : cOKb mt_X8_falls ((kc_X8_falls.drop 0).take 60) = true := by decide +kernel
theorem mk_X8_falls_60 : cOKb mt_X8_falls ((kc_X8_falls.drop 60).take 60) = true := by decide +kernel
theorem mk_X8_falls : mOK mt_X8_falls := by
  refine ⟨by decide +kernel, ?_⟩
  show (kc_X8_falls).all _ = true
  rw [show kc_X8_falls = kc_X8_falls.drop 0 from rfl]
  refine all_td 60 mk_X8_falls_0 ?_
  rw [List.drop_drop]
  refine all_td 60 mk_X8_falls_60 ?_
  rw [List.drop_drop]
  decide +kernel
theorem mk_X8_empty : mOK mt_X8_empty := ⟨by decide +kernel, by decide +kernel⟩
theorem mk_X8_late : mOK mt_X8_late := ⟨by decide +kernel, by decide +kernel⟩
theorem mk_X8_gains_0 : cOKb mt_X8_gains ((kc_X8_gains.drop 0).take 60) = true := by decide +kernel
theorem mk_X8_gains_60 : cOKb mt_X8_gains ((kc_X8_gains.drop 60).take 60) = true := by decide +kernel
theorem mk_X8_gains : mOK mt_X8_gains := by
  refine ⟨by decide +kernel, ?_⟩
  show (kc_X8_gains).all _ = true
  rw [show kc_X8_gains = kc_X8_gains.drop 0 from rfl]
  refine all_td 60 mk_X8_gains_0 ?_
  rw [List.drop_drop]
  refine all_td 60 mk_X8_gains_60 ?_
  rw [List.drop_drop]
  decide +kernel
theorem mk_X8_run : mOK mt_X8_run := ⟨by decide +kernel, by decide +kernel⟩
theorem mk_X8_round : mOK mt_X8_round := ⟨by decide +kernel, by decide +kernel⟩
theorem mk_X8_counted : mOK mt_X8_counted := ⟨by decide +kernel, by decide +kernel⟩
theorem mk_X8_stolen : mOK mt_X8_stolen := ⟨by decide +kernel, by decide +kernel⟩
theorem mk_X8_split_0 : cOKb mt_X8_split ((kc_X8_split.drop 0).take 60) = true := by decide +kernel
theorem mk_X8_split_60 : cOKb mt_X8_split ((kc_X8_split.drop 60).take 60) = true := by decide +kernel
theorem mk_X8_split : mOK mt_X8_split := by
  refine ⟨by decide +kernel, ?_⟩
  show (kc_X8_split).all _ = true
  rw [show kc_X8_split = kc_X8_split.drop 0 from rfl]
  refine all_td 60 mk_X8_split_0 ?_
  rw [List.drop_drop]
  refine all_td 60 mk_X8_split_60 ?_
  rw [List.drop_drop]
  decide +kernel
theorem mk_X8_night : mOK mt_X8_night := ⟨by decide +kernel, by decide +kernel⟩
theorem mk_X8_nightHas : mOK mt_X8_nightHas := ⟨by decide +kernel, by decide +kernel⟩
theorem mk_X8_keep : mOK mt_X8_keep := ⟨by decide +kernel, by decide +kernel⟩
theorem mk_X8_back : mOK mt_X8_back := ⟨by decide +kernel, by decide +kernel⟩
theorem mk_X8_count : mOK mt_X8_count := ⟨by decide +kernel, by decide +kernel⟩
theorem mk_X8_within : mOK mt_X8_within := ⟨by decide +kernel, by decide +kernel⟩
theorem mk_X8_isHand : mOK mt_X8_isHand := ⟨by decide +kernel, by decide +kernel⟩
theorem mk_X8_isGlass : mOK mt_X8_isGlass := ⟨by decide +kernel, by decide +kernel⟩
theorem mk_X8_isDelay : mOK mt_X8_isDelay := ⟨by decide +kernel, by decide +kernel⟩
theorem mk_X8_isNight : mOK mt_X8_isNight := ⟨by decide +kernel, by decide +kernel⟩
theorem mk_X8_lookAhead : mOK mt_X8_lookAhead := ⟨by decide +kernel, by decide +kernel⟩
theorem mk_X8_passNight : mOK mt_X8_passNight := ⟨by decide +kernel, by decide +kernel⟩
theorem mk_X8_countHoldings : mOK mt_X8_countHoldings := ⟨by decide +kernel, by decide +kernel⟩
theorem mk_X8_comesFirst : mOK mt_X8_comesFirst := ⟨by decide +kernel, by decide +kernel⟩
theorem mk_X9_init_0 : cOKb mt_X9_init ((kc_X9_init.drop 0).take 60) = true := by decide +kernel
theorem mk_X9_init_60 : cOKb mt_X9_init ((kc_X9_init.drop 60).take 60) = true := by decide +kernel
theorem mk_X9_init_120 : cOKb mt_X9_init ((kc_X9_init.drop 120).take 60) = true := by decide +kernel
theorem mk_X9_init : mOK mt_X9_init := by
  refine ⟨by decide +kernel, ?_⟩
  show (kc_X9_init).all _ = true
  rw [show kc_X9_init = kc_X9_init.drop 0 from rfl]
  refine all_td 60 mk_X9_init_0 ?_
  rw [List.drop_drop]
  refine all_td 60 mk_X9_init_60 ?_
  rw [List.drop_drop]
  refine all_td 60 mk_X9_init_120 ?_
  rw [List.drop_drop]
  decide +kernel
theorem mk_X9_in : mOK mt_X9_in := ⟨by decide +kernel, by decide +kernel⟩
theorem mk_X9_has1 : mOK mt_X9_has1 := ⟨by decide +kernel, by decide +kernel⟩
theorem mk_X9_noShelf : mOK mt_X9_noShelf := ⟨by decide +kernel, by decide +kernel⟩
theorem mk_X9_write : mOK mt_X9_write := ⟨by decide +kernel, by decide +kernel⟩
theorem mk_X9_wipe : mOK mt_X9_wipe := ⟨by decide +kernel, by decide +kernel⟩
theorem mk_X9_byteAt : mOK mt_X9_byteAt := ⟨by decide +kernel, by decide +kernel⟩
theorem mk_X9_figures_0 : cOKb mt_X9_figures ((kc_X9_figures.drop 0).take 60) = true := by decide +kernel
theorem mk_X9_figures_60 : cOKb mt_X9_figures ((kc_X9_figures.drop 60).take 60) = true := by decide +kernel
theorem mk_X9_figures : mOK mt_X9_figures := by
  refine ⟨by decide +kernel, ?_⟩
  show (kc_X9_figures).all _ = true
  rw [show kc_X9_figures = kc_X9_figures.drop 0 from rfl]
  refine all_td 60 mk_X9_figures_0 ?_
  rw [List.drop_drop]
  refine all_td 60 mk_X9_figures_60 ?_
  rw [List.drop_drop]
  decide +kernel
theorem mk_X9_glassItem_0 : cOKb mt_X9_glassItem ((kc_X9_glassItem.drop 0).take 60) = true := by decide +kernel
theorem mk_X9_glassItem_60 : cOKb mt_X9_glassItem ((kc_X9_glassItem.drop 60).take 60) = true := by decide +kernel
theorem mk_X9_glassItem : mOK mt_X9_glassItem := by
  refine ⟨by decide +kernel, ?_⟩
  show (kc_X9_glassItem).all _ = true
  rw [show kc_X9_glassItem = kc_X9_glassItem.drop 0 from rfl]
  refine all_td 60 mk_X9_glassItem_0 ?_
  rw [List.drop_drop]
  refine all_td 60 mk_X9_glassItem_60 ?_
  rw [List.drop_drop]
  decide +kernel
theorem mk_X9_tieItem_0 : cOKb mt_X9_tieItem ((kc_X9_tieItem.drop 0).take 60) = true := by decide +kernel
theorem mk_X9_tieItem_60 : cOKb mt_X9_tieItem ((kc_X9_tieItem.drop 60).take 60) = true := by decide +kernel
theorem mk_X9_tieItem : mOK mt_X9_tieItem := by
  refine ⟨by decide +kernel, ?_⟩
  show (kc_X9_tieItem).all _ = true
  rw [show kc_X9_tieItem = kc_X9_tieItem.drop 0 from rfl]
  refine all_td 60 mk_X9_tieItem_0 ?_
  rw [List.drop_drop]
  refine all_td 60 mk_X9_tieItem_60 ?_
  rw [List.drop_drop]
  decide +kernel
theorem mk_X9_clerkItem_0 : cOKb mt_X9_clerkItem ((kc_X9_clerkItem.drop 0).take 60) = true := by decide +kernel
theorem mk_X9_clerkItem_60 : cOKb mt_X9_clerkItem ((kc_X9_clerkItem.drop 60).take 60) = true := by decide +kernel
theorem mk_X9_clerkItem : mOK mt_X9_clerkItem := by
  refine ⟨by decide +kernel, ?_⟩
  show (kc_X9_clerkItem).all _ = true
  rw [show kc_X9_clerkItem = kc_X9_clerkItem.drop 0 from rfl]
  refine all_td 60 mk_X9_clerkItem_0 ?_
  rw [List.drop_drop]
  refine all_td 60 mk_X9_clerkItem_60 ?_
  rw [List.drop_drop]
  decide +kernel
theorem mk_X9_item_0 : cOKb mt_X9_item ((kc_X9_item.drop 0).take 60) = true := by decide +kernel
theorem mk_X9_item_60 : cOKb mt_X9_item ((kc_X9_item.drop 60).take 60) = true := by decide +kernel
theorem mk_X9_item : mOK mt_X9_item := by
  refine ⟨by decide +kernel, ?_⟩
  show (kc_X9_item).all _ = true
  rw [show kc_X9_item = kc_X9_item.drop 0 from rfl]
  refine all_td 60 mk_X9_item_0 ?_
  rw [List.drop_drop]
  refine all_td 60 mk_X9_item_60 ?_
  rw [List.drop_drop]
  decide +kernel
theorem mk_X9_readAll : mOK mt_X9_readAll := ⟨by decide +kernel, by decide +kernel⟩
theorem mk_X9_fault : mOK mt_X9_fault := ⟨by decide +kernel, by decide +kernel⟩
theorem mk_X9_layShelf_0 : cOKb mt_X9_layShelf ((kc_X9_layShelf.drop 0).take 60) = true := by decide +kernel
theorem mk_X9_layShelf_60 : cOKb mt_X9_layShelf ((kc_X9_layShelf.drop 60).take 60) = true := by decide +kernel
theorem mk_X9_layShelf : mOK mt_X9_layShelf := by
  refine ⟨by decide +kernel, ?_⟩
  show (kc_X9_layShelf).all _ = true
  rw [show kc_X9_layShelf = kc_X9_layShelf.drop 0 from rfl]
  refine all_td 60 mk_X9_layShelf_0 ?_
  rw [List.drop_drop]
  refine all_td 60 mk_X9_layShelf_60 ?_
  rw [List.drop_drop]
  decide +kernel
theorem mk_X9_lay_0 : cOKb mt_X9_lay ((kc_X9_lay.drop 0).take 60) = true := by decide +kernel
theorem mk_X9_lay_60 : cOKb mt_X9_lay ((kc_X9_lay.drop 60).take 60) = true := by decide +kernel
theorem mk_X9_lay_120 : cOKb mt_X9_lay ((kc_X9_lay.drop 120).take 60) = true := by decide +kernel
theorem mk_X9_lay : mOK mt_X9_lay := by
  refine ⟨by decide +kernel, ?_⟩
  show (kc_X9_lay).all _ = true
  rw [show kc_X9_lay = kc_X9_lay.drop 0 from rfl]
  refine all_td 60 mk_X9_lay_0 ?_
  rw [List.drop_drop]
  refine all_td 60 mk_X9_lay_60 ?_
  rw [List.drop_drop]
  refine all_td 60 mk_X9_lay_120 ?_
  rw [List.drop_drop]
  decide +kernel
theorem mk_X9_isGlass : mOK mt_X9_isGlass := ⟨by decide +kernel, by decide +kernel⟩
theorem mk_X9_isHand : mOK mt_X9_isHand := ⟨by decide +kernel, by decide +kernel⟩
theorem mk_X9_glass : mOK mt_X9_glass := ⟨by decide +kernel, by decide +kernel⟩
theorem mk_X9_copy : mOK mt_X9_copy := ⟨by decide +kernel, by decide +kernel⟩
theorem mk_X9_hasOf_0 : cOKb mt_X9_hasOf ((kc_X9_hasOf.drop 0).take 60) = true := by decide +kernel
theorem mk_X9_hasOf_60 : cOKb mt_X9_hasOf ((kc_X9_hasOf.drop 60).take 60) = true := by decide +kernel
theorem mk_X9_hasOf : mOK mt_X9_hasOf := by
  refine ⟨by decide +kernel, ?_⟩
  show (kc_X9_hasOf).all _ = true
  rw [show kc_X9_hasOf = kc_X9_hasOf.drop 0 from rfl]
  refine all_td 60 mk_X9_hasOf_0 ?_
  rw [List.drop_drop]
  refine all_td 60 mk_X9_hasOf_60 ?_
  rw [List.drop_drop]
  decide +kernel
theorem mk_X9_has : mOK mt_X9_has := ⟨by decide +kernel, by decide +kernel⟩
theorem mk_X9_tiedTo : mOK mt_X9_tiedTo := ⟨by decide +kernel, by decide +kernel⟩
theorem mk_X9_turnOf : mOK mt_X9_turnOf := ⟨by decide +kernel, by decide +kernel⟩
theorem mk_X9_clerks : mOK mt_X9_clerks := ⟨by decide +kernel, by decide +kernel⟩
theorem mk_X9_upper : mOK mt_X9_upper := ⟨by decide +kernel, by decide +kernel⟩
theorem mk_X9_lower : mOK mt_X9_lower := ⟨by decide +kernel, by decide +kernel⟩
theorem mk_X9_standing : mOK mt_X9_standing := ⟨by decide +kernel, by decide +kernel⟩
theorem mk_X9_fall_0 : cOKb mt_X9_fall ((kc_X9_fall.drop 0).take 60) = true := by decide +kernel
theorem mk_X9_fall_60 : cOKb mt_X9_fall ((kc_X9_fall.drop 60).take 60) = true := by decide +kernel
theorem mk_X9_fall : mOK mt_X9_fall := by
  refine ⟨by decide +kernel, ?_⟩
  show (kc_X9_fall).all _ = true
  rw [show kc_X9_fall = kc_X9_fall.drop 0 from rfl]
  refine all_td 60 mk_X9_fall_0 ?_
  rw [List.drop_drop]
  refine all_td 60 mk_X9_fall_60 ?_
  rw [List.drop_drop]
  decide +kernel
theorem mk_X9_minutes : mOK mt_X9_minutes := ⟨by decide +kernel, by decide +kernel⟩
theorem mk_X9_noteUndo_0 : cOKb mt_X9_noteUndo ((kc_X9_noteUndo.drop 0).take 60) = true := by decide +kernel
theorem mk_X9_noteUndo_60 : cOKb mt_X9_noteUndo ((kc_X9_noteUndo.drop 60).take 60) = true := by decide +kernel
theorem mk_X9_noteUndo : mOK mt_X9_noteUndo := by
  refine ⟨by decide +kernel, ?_⟩
  show (kc_X9_noteUndo).all _ = true
  rw [show kc_X9_noteUndo = kc_X9_noteUndo.drop 0 from rfl]
  refine all_td 60 mk_X9_noteUndo_0 ?_
  rw [List.drop_drop]
  refine all_td 60 mk_X9_noteUndo_60 ?_
  rw [List.drop_drop]
  decide +kernel
theorem mk_X9_turn : mOK mt_X9_turn := ⟨by decide +kernel, by decide +kernel⟩
theorem mk_X9_pour_0 : cOKb mt_X9_pour ((kc_X9_pour.drop 0).take 60) = true := by decide +kernel
theorem mk_X9_pour_60 : cOKb mt_X9_pour ((kc_X9_pour.drop 60).take 60) = true := by decide +kernel
theorem mk_X9_pour : mOK mt_X9_pour := by
  refine ⟨by decide +kernel, ?_⟩
  show (kc_X9_pour).all _ = true
  rw [show kc_X9_pour = kc_X9_pour.drop 0 from rfl]
  refine all_td 60 mk_X9_pour_0 ?_
  rw [List.drop_drop]
  refine all_td 60 mk_X9_pour_60 ?_
  rw [List.drop_drop]
  decide +kernel
theorem mk_X9_undo_0 : cOKb mt_X9_undo ((kc_X9_undo.drop 0).take 60) = true := by decide +kernel
theorem mk_X9_undo_60 : cOKb mt_X9_undo ((kc_X9_undo.drop 60).take 60) = true := by decide +kernel
theorem mk_X9_undo : mOK mt_X9_undo := by
  refine ⟨by decide +kernel, ?_⟩
  show (kc_X9_undo).all _ = true
  rw [show kc_X9_undo = kc_X9_undo.drop 0 from rfl]
  refine all_td 60 mk_X9_undo_0 ?_
  rw [List.drop_drop]
  refine all_td 60 mk_X9_undo_60 ?_
  rw [List.drop_drop]
  decide +kernel
theorem mk_X9_runOn : mOK mt_X9_runOn := ⟨by decide +kernel, by decide +kernel⟩
theorem mk_X9_isLater : mOK mt_X9_isLater := ⟨by decide +kernel, by decide +kernel⟩
theorem mk_X9_later : mOK mt_X9_later := ⟨by decide +kernel, by decide +kernel⟩
theorem mk_X9_falls : mOK mt_X9_falls := ⟨by decide +kernel, by decide +kernel⟩
theorem mk_X9_empty : mOK mt_X9_empty := ⟨by decide +kernel, by decide +kernel⟩
theorem mk_X9_isLate : mOK mt_X9_isLate := ⟨by decide +kernel, by decide +kernel⟩
theorem mk_X9_layMore : mOK mt_X9_layMore := ⟨by decide +kernel, by decide +kernel⟩
theorem mk_X9_late : mOK mt_X9_late := ⟨by decide +kernel, by decide +kernel⟩
theorem mk_X9_gains : mOK mt_X9_gains := ⟨by decide +kernel, by decide +kernel⟩
theorem mk_X9_run : mOK mt_X9_run := ⟨by decide +kernel, by decide +kernel⟩
theorem mk_X9_lowestStanding : mOK mt_X9_lowestStanding := ⟨by decide +kernel, by decide +kernel⟩
theorem mk_X9_roundOf : mOK mt_X9_roundOf := ⟨by decide +kernel, by decide +kernel⟩
theorem mk_X9_figure : mOK mt_X9_figure := ⟨by decide +kernel, by decide +kernel⟩
theorem mk_X9_round_0 : cOKb mt_X9_round ((kc_X9_round.drop 0).take 60) = true := by decide +kernel
theorem mk_X9_round_60 : cOKb mt_X9_round ((kc_X9_round.drop 60).take 60) = true := by decide +kernel
theorem mk_X9_round : mOK mt_X9_round := by
  refine ⟨by decide +kernel, ?_⟩
  show (kc_X9_round).all _ = true
  rw [show kc_X9_round = kc_X9_round.drop 0 from rfl]
  refine all_td 60 mk_X9_round_0 ?_
  rw [List.drop_drop]
  refine all_td 60 mk_X9_round_60 ?_
  rw [List.drop_drop]
  decide +kernel
theorem mk_X9_counted_0 : cOKb mt_X9_counted ((kc_X9_counted.drop 0).take 60) = true := by decide +kernel
theorem mk_X9_counted_60 : cOKb mt_X9_counted ((kc_X9_counted.drop 60).take 60) = true := by decide +kernel
theorem mk_X9_counted : mOK mt_X9_counted := by
  refine ⟨by decide +kernel, ?_⟩
  show (kc_X9_counted).all _ = true
  rw [show kc_X9_counted = kc_X9_counted.drop 0 from rfl]
  refine all_td 60 mk_X9_counted_0 ?_
  rw [List.drop_drop]
  refine all_td 60 mk_X9_counted_60 ?_
  rw [List.drop_drop]
  decide +kernel
theorem mk_X9_fewest : mOK mt_X9_fewest := ⟨by decide +kernel, by decide +kernel⟩
theorem mk_X9_till_0 : cOKb mt_X9_till ((kc_X9_till.drop 0).take 60) = true := by decide +kernel
theorem mk_X9_till_60 : cOKb mt_X9_till ((kc_X9_till.drop 60).take 60) = true := by decide +kernel
theorem mk_X9_till : mOK mt_X9_till := by
  refine ⟨by decide +kernel, ?_⟩
  show (kc_X9_till).all _ = true
  rw [show kc_X9_till = kc_X9_till.drop 0 from rfl]
  refine all_td 60 mk_X9_till_0 ?_
  rw [List.drop_drop]
  refine all_td 60 mk_X9_till_60 ?_
  rw [List.drop_drop]
  decide +kernel
theorem mk_X9_since_0 : cOKb mt_X9_since ((kc_X9_since.drop 0).take 60) = true := by decide +kernel
theorem mk_X9_since_60 : cOKb mt_X9_since ((kc_X9_since.drop 60).take 60) = true := by decide +kernel
theorem mk_X9_since : mOK mt_X9_since := by
  refine ⟨by decide +kernel, ?_⟩
  show (kc_X9_since).all _ = true
  rw [show kc_X9_since = kc_X9_since.drop 0 from rfl]
  refine all_td 60 mk_X9_since_0 ?_
  rw [List.drop_drop]
  refine all_td 60 mk_X9_since_60 ?_
  rw [List.drop_drop]
  decide +kernel
theorem mk_X9_falseOnes_0 : cOKb mt_X9_falseOnes ((kc_X9_falseOnes.drop 0).take 60) = true := by decide +kernel
theorem mk_X9_falseOnes_60 : cOKb mt_X9_falseOnes ((kc_X9_falseOnes.drop 60).take 60) = true := by decide +kernel
theorem mk_X9_falseOnes : mOK mt_X9_falseOnes := by
  refine ⟨by decide +kernel, ?_⟩
  show (kc_X9_falseOnes).all _ = true
  rw [show kc_X9_falseOnes = kc_X9_falseOnes.drop 0 from rfl]
  refine all_td 60 mk_X9_falseOnes_0 ?_
  rw [List.drop_drop]
  refine all_td 60 mk_X9_falseOnes_60 ?_
  rw [List.drop_drop]
  decide +kernel
theorem mk_X9_stolen : mOK mt_X9_stolen := ⟨by decide +kernel, by decide +kernel⟩
theorem mk_X9_split_0 : cOKb mt_X9_split ((kc_X9_split.drop 0).take 60) = true := by decide +kernel
theorem mk_X9_split_60 : cOKb mt_X9_split ((kc_X9_split.drop 60).take 60) = true := by decide +kernel
theorem mk_X9_split : mOK mt_X9_split := by
  refine ⟨by decide +kernel, ?_⟩
  show (kc_X9_split).all _ = true
  rw [show kc_X9_split = kc_X9_split.drop 0 from rfl]
  refine all_td 60 mk_X9_split_0 ?_
  rw [List.drop_drop]
  refine all_td 60 mk_X9_split_60 ?_
  rw [List.drop_drop]
  decide +kernel
theorem mk_X9_draw : mOK mt_X9_draw := ⟨by decide +kernel, by decide +kernel⟩
theorem mk_X9_goNight : mOK mt_X9_goNight := ⟨by decide +kernel, by decide +kernel⟩
theorem mk_X9_suffer_0 : cOKb mt_X9_suffer ((kc_X9_suffer.drop 0).take 60) = true := by decide +kernel
theorem mk_X9_suffer_60 : cOKb mt_X9_suffer ((kc_X9_suffer.drop 60).take 60) = true := by decide +kernel
theorem mk_X9_suffer : mOK mt_X9_suffer := by
  refine ⟨by decide +kernel, ?_⟩
  show (kc_X9_suffer).all _ = true
  rw [show kc_X9_suffer = kc_X9_suffer.drop 0 from rfl]
  refine all_td 60 mk_X9_suffer_0 ?_
  rw [List.drop_drop]
  refine all_td 60 mk_X9_suffer_60 ?_
  rw [List.drop_drop]
  decide +kernel
theorem mk_X9_isNight : mOK mt_X9_isNight := ⟨by decide +kernel, by decide +kernel⟩
theorem mk_X9_night : mOK mt_X9_night := ⟨by decide +kernel, by decide +kernel⟩
theorem mk_X9_nightHas : mOK mt_X9_nightHas := ⟨by decide +kernel, by decide +kernel⟩
theorem mk_X9_copyCounts : mOK mt_X9_copyCounts := ⟨by decide +kernel, by decide +kernel⟩
theorem mk_X9_keep : mOK mt_X9_keep := ⟨by decide +kernel, by decide +kernel⟩
theorem mk_X9_back : mOK mt_X9_back := ⟨by decide +kernel, by decide +kernel⟩
theorem mk_X9_count : mOK mt_X9_count := ⟨by decide +kernel, by decide +kernel⟩
theorem mk_J6_bitCount_0f7a4 : mOK mt_J6_bitCount_0f7a4 := ⟨by decide +kernel, by decide +kernel⟩
theorem mt_ok : ∀ me ∈ MT, mOK me := by
  unfold MT
  exact List.forall_mem_cons.mpr ⟨mk_X0_init, List.forall_mem_cons.mpr ⟨mk_X0_noteTurn, List.forall_mem_cons.mpr ⟨mk_X0_notePouring, List.forall_mem_cons.mpr ⟨mk_X0_makeRoom, List.forall_mem_cons.mpr ⟨mk_X0_takeBack, List.forall_mem_cons.mpr ⟨mk_X1_init, List.forall_mem_cons.mpr ⟨mk_X1_pass, List.forall_mem_cons.mpr ⟨mk_X1_befall, List.forall_mem_cons.mpr ⟨mk_X1_lose, List.forall_mem_cons.mpr ⟨mk_X1_draw, List.forall_mem_cons.mpr ⟨mk_X2_init, List.forall_mem_cons.mpr ⟨mk_X2_clear, List.forall_mem_cons.mpr ⟨mk_X2_isTold, List.forall_mem_cons.mpr ⟨mk_X2_addGlass, List.forall_mem_cons.mpr ⟨mk_X2_addTie, List.forall_mem_cons.mpr ⟨mk_X2_addClerk, List.forall_mem_cons.mpr ⟨mk_X2_setPartner, List.forall_mem_cons.mpr ⟨mk_X2_setRisks, List.forall_mem_cons.mpr ⟨mk_X2_bindTies, List.forall_mem_cons.mpr ⟨mk_X2_tiedToSome, List.forall_mem_cons.mpr ⟨mk_X3_init, List.forall_mem_cons.mpr ⟨mk_X3_readText, List.forall_mem_cons.mpr ⟨mk_X3_readItem, List.forall_mem_cons.mpr ⟨mk_X3_numbersOf, List.forall_mem_cons.mpr ⟨mk_X3_readNumber, List.forall_mem_cons.mpr ⟨mk_X3_addItem, List.forall_mem_cons.mpr ⟨mk_X4_init, List.forall_mem_cons.mpr ⟨mk_X4_search, List.forall_mem_cons.mpr ⟨mk_X4_stoodBy, List.forall_mem_cons.mpr ⟨mk_X4_stepRow, List.forall_mem_cons.mpr ⟨mk_X5_init, List.forall_mem_cons.mpr ⟨mk_X5_fill, List.forall_mem_cons.mpr ⟨mk_X5_copyFrom, List.forall_mem_cons.mpr ⟨mk_X5_upperSide, List.forall_mem_cons.mpr ⟨mk_X5_upperBulb, List.forall_mem_cons.mpr ⟨mk_X5_flip, List.forall_mem_cons.mpr ⟨mk_X5_move, List.forall_mem_cons.mpr ⟨mk_X5_goOn, List.forall_mem_cons.mpr ⟨mk_X5_letClerksTurn, List.forall_mem_cons.mpr ⟨mk_X5_letSandFall, List.forall_mem_cons.mpr ⟨mk_X5_flowIn, List.forall_mem_cons.mpr ⟨mk_X5_standing, List.forall_mem_cons.mpr ⟨mk_X5_minutesLeft, List.forall_mem_cons.mpr ⟨mk_X5_grainsOf, List.forall_mem_cons.mpr ⟨mk_X6_init, List.forall_mem_cons.mpr ⟨mk_X6_note, List.forall_mem_cons.mpr ⟨mk_X6_missing, List.forall_mem_cons.mpr ⟨mk_X6_till, List.forall_mem_cons.mpr ⟨mk_X6_since, List.forall_mem_cons.mpr ⟨mk_X6_falseOnes, List.forall_mem_cons.mpr ⟨mk_X6_exceedsEarlier, List.forall_mem_cons.mpr ⟨mk_X7_init, List.forall_mem_cons.mpr ⟨mk_X7_append, List.forall_mem_cons.mpr ⟨mk_X7_at, List.forall_mem_cons.mpr ⟨mk_X8_init, List.forall_mem_cons.mpr ⟨mk_X8_write, List.forall_mem_cons.mpr ⟨mk_X8_wipe, List.forall_mem_cons.mpr ⟨mk_X8_fault, List.forall_mem_cons.mpr ⟨mk_X8_lay, List.forall_mem_cons.mpr ⟨mk_X8_glass, List.forall_mem_cons.mpr ⟨mk_X8_has, List.forall_mem_cons.mpr ⟨mk_X8_minutes, List.forall_mem_cons.mpr ⟨mk_X8_turn, List.forall_mem_cons.mpr ⟨mk_X8_pour, List.forall_mem_cons.mpr ⟨mk_X8_undo, List.forall_mem_cons.mpr ⟨mk_X8_later, List.forall_mem_cons.mpr ⟨mk_X8_falls, List.forall_mem_cons.mpr ⟨mk_X8_empty, List.forall_mem_cons.mpr ⟨mk_X8_late, List.forall_mem_cons.mpr ⟨mk_X8_gains, List.forall_mem_cons.mpr ⟨mk_X8_run, List.forall_mem_cons.mpr ⟨mk_X8_round, List.forall_mem_cons.mpr ⟨mk_X8_counted, List.forall_mem_cons.mpr ⟨mk_X8_stolen, List.forall_mem_cons.mpr ⟨mk_X8_split, List.forall_mem_cons.mpr ⟨mk_X8_night, List.forall_mem_cons.mpr ⟨mk_X8_nightHas, List.forall_mem_cons.mpr ⟨mk_X8_keep, List.forall_mem_cons.mpr ⟨mk_X8_back, List.forall_mem_cons.mpr ⟨mk_X8_count, List.forall_mem_cons.mpr ⟨mk_X8_within, List.forall_mem_cons.mpr ⟨mk_X8_isHand, List.forall_mem_cons.mpr ⟨mk_X8_isGlass, List.forall_mem_cons.mpr ⟨mk_X8_isDelay, List.forall_mem_cons.mpr ⟨mk_X8_isNight, List.forall_mem_cons.mpr ⟨mk_X8_lookAhead, List.forall_mem_cons.mpr ⟨mk_X8_passNight, List.forall_mem_cons.mpr ⟨mk_X8_countHoldings, List.forall_mem_cons.mpr ⟨mk_X8_comesFirst, List.forall_mem_cons.mpr ⟨mk_X9_init, List.forall_mem_cons.mpr ⟨mk_X9_in, List.forall_mem_cons.mpr ⟨mk_X9_has1, List.forall_mem_cons.mpr ⟨mk_X9_noShelf, List.forall_mem_cons.mpr ⟨mk_X9_write, List.forall_mem_cons.mpr ⟨mk_X9_wipe, List.forall_mem_cons.mpr ⟨mk_X9_byteAt, List.forall_mem_cons.mpr ⟨mk_X9_figures, List.forall_mem_cons.mpr ⟨mk_X9_glassItem, List.forall_mem_cons.mpr ⟨mk_X9_tieItem, List.forall_mem_cons.mpr ⟨mk_X9_clerkItem, List.forall_mem_cons.mpr ⟨mk_X9_item, List.forall_mem_cons.mpr ⟨mk_X9_readAll, List.forall_mem_cons.mpr ⟨mk_X9_fault, List.forall_mem_cons.mpr ⟨mk_X9_layShelf, List.forall_mem_cons.mpr ⟨mk_X9_lay, List.forall_mem_cons.mpr ⟨mk_X9_isGlass, List.forall_mem_cons.mpr ⟨mk_X9_isHand, List.forall_mem_cons.mpr ⟨mk_X9_glass, List.forall_mem_cons.mpr ⟨mk_X9_copy, List.forall_mem_cons.mpr ⟨mk_X9_hasOf, List.forall_mem_cons.mpr ⟨mk_X9_has, List.forall_mem_cons.mpr ⟨mk_X9_tiedTo, List.forall_mem_cons.mpr ⟨mk_X9_turnOf, List.forall_mem_cons.mpr ⟨mk_X9_clerks, List.forall_mem_cons.mpr ⟨mk_X9_upper, List.forall_mem_cons.mpr ⟨mk_X9_lower, List.forall_mem_cons.mpr ⟨mk_X9_standing, List.forall_mem_cons.mpr ⟨mk_X9_fall, List.forall_mem_cons.mpr ⟨mk_X9_minutes, List.forall_mem_cons.mpr ⟨mk_X9_noteUndo, List.forall_mem_cons.mpr ⟨mk_X9_turn, List.forall_mem_cons.mpr ⟨mk_X9_pour, List.forall_mem_cons.mpr ⟨mk_X9_undo, List.forall_mem_cons.mpr ⟨mk_X9_runOn, List.forall_mem_cons.mpr ⟨mk_X9_isLater, List.forall_mem_cons.mpr ⟨mk_X9_later, List.forall_mem_cons.mpr ⟨mk_X9_falls, List.forall_mem_cons.mpr ⟨mk_X9_empty, List.forall_mem_cons.mpr ⟨mk_X9_isLate, List.forall_mem_cons.mpr ⟨mk_X9_layMore, List.forall_mem_cons.mpr ⟨mk_X9_late, List.forall_mem_cons.mpr ⟨mk_X9_gains, List.forall_mem_cons.mpr ⟨mk_X9_run, List.forall_mem_cons.mpr ⟨mk_X9_lowestStanding, List.forall_mem_cons.mpr ⟨mk_X9_roundOf, List.forall_mem_cons.mpr ⟨mk_X9_figure, List.forall_mem_cons.mpr ⟨mk_X9_round, List.forall_mem_cons.mpr ⟨mk_X9_counted, List.forall_mem_cons.mpr ⟨mk_X9_fewest, List.forall_mem_cons.mpr ⟨mk_X9_till, List.forall_mem_cons.mpr ⟨mk_X9_since, List.forall_mem_cons.mpr ⟨mk_X9_falseOnes, List.forall_mem_cons.mpr ⟨mk_X9_stolen, List.forall_mem_cons.mpr ⟨mk_X9_split, List.forall_mem_cons.mpr ⟨mk_X9_draw, List.forall_mem_cons.mpr ⟨mk_X9_goNight, List.forall_mem_cons.mpr ⟨mk_X9_suffer, List.forall_mem_cons.mpr ⟨mk_X9_isNight, List.forall_mem_cons.mpr ⟨mk_X9_night, List.forall_mem_cons.mpr ⟨mk_X9_nightHas, List.forall_mem_cons.mpr ⟨mk_X9_copyCounts, List.forall_mem_cons.mpr ⟨mk_X9_keep, List.forall_mem_cons.mpr ⟨mk_X9_back, List.forall_mem_cons.mpr ⟨mk_X9_count, List.forall_mem_cons.mpr ⟨mk_J6_bitCount_0f7a4, fun _ h => absurd h List.not_mem_nil⟩⟩⟩⟩⟩⟩⟩⟩⟩⟩⟩⟩⟩⟩⟩⟩⟩⟩⟩⟩⟩⟩⟩⟩⟩⟩⟩⟩⟩⟩⟩⟩⟩⟩⟩⟩⟩⟩⟩⟩⟩⟩⟩⟩⟩⟩⟩⟩⟩⟩⟩⟩⟩⟩⟩⟩⟩⟩⟩⟩⟩⟩⟩⟩⟩⟩⟩⟩⟩⟩⟩⟩⟩⟩⟩⟩⟩⟩⟩⟩⟩⟩⟩⟩⟩⟩⟩⟩⟩⟩⟩⟩⟩⟩⟩⟩⟩⟩⟩⟩⟩⟩⟩⟩⟩⟩⟩⟩⟩⟩⟩⟩⟩⟩⟩⟩⟩⟩⟩⟩⟩⟩⟩⟩⟩⟩⟩⟩⟩⟩⟩⟩⟩⟩⟩⟩⟩⟩⟩⟩⟩⟩⟩⟩⟩⟩⟩⟩⟩⟩⟩⟩⟩⟩⟩
def mt_L : ME := (10, x, code, 4, some .boolean, kc_L_law, 7, 165)

theorem mk_L_0 : cOKb mt_L ((kc_L_law.drop 0).take 60) = true := by decide +kernel
theorem mk_L_60 : cOKb mt_L ((kc_L_law.drop 60).take 60) = true := by decide +kernel
theorem mk_L_120 : cOKb mt_L ((kc_L_law.drop 120).take 60) = true := by decide +kernel
theorem mk_L_180 : cOKb mt_L ((kc_L_law.drop 180).take 60) = true := by decide +kernel
theorem mk_L_240 : cOKb mt_L ((kc_L_law.drop 240).take 60) = true := by decide +kernel
theorem mk_L_300 : cOKb mt_L ((kc_L_law.drop 300).take 60) = true := by decide +kernel
theorem mk_L_360 : cOKb mt_L ((kc_L_law.drop 360).take 60) = true := by decide +kernel
theorem mk_L_420 : cOKb mt_L ((kc_L_law.drop 420).take 60) = true := by decide +kernel
theorem mk_L_480 : cOKb mt_L ((kc_L_law.drop 480).take 60) = true := by decide +kernel
theorem mk_L_540 : cOKb mt_L ((kc_L_law.drop 540).take 60) = true := by decide +kernel
theorem mk_L_600 : cOKb mt_L ((kc_L_law.drop 600).take 60) = true := by decide +kernel
theorem mk_L_660 : cOKb mt_L ((kc_L_law.drop 660).take 60) = true := by decide +kernel
theorem mk_L : mOK mt_L := by
  refine ⟨by decide +kernel, ?_⟩
  show (kc_L_law).all _ = true
  rw [show kc_L_law = kc_L_law.drop 0 from rfl]
  refine all_td 60 mk_L_0 ?_
  rw [List.drop_drop]
  refine all_td 60 mk_L_60 ?_
  rw [List.drop_drop]
  refine all_td 60 mk_L_120 ?_
  rw [List.drop_drop]
  refine all_td 60 mk_L_180 ?_
  rw [List.drop_drop]
  refine all_td 60 mk_L_240 ?_
  rw [List.drop_drop]
  refine all_td 60 mk_L_300 ?_
  rw [List.drop_drop]
  refine all_td 60 mk_L_360 ?_
  rw [List.drop_drop]
  refine all_td 60 mk_L_420 ?_
  rw [List.drop_drop]
  refine all_td 60 mk_L_480 ?_
  rw [List.drop_drop]
  refine all_td 60 mk_L_540 ?_
  rw [List.drop_drop]
  refine all_td 60 mk_L_600 ?_
  rw [List.drop_drop]
  refine all_td 60 mk_L_660 ?_
  rw [List.drop_drop]
  decide +kernel
