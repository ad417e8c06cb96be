/-! The law over the printed functions (written by wip/whole/gen60.py). -/
set_option maxRecDepth 20000 in
theorem TT_sld {L : Nat} {xs : Nat → Int32} {me : ME} {pc a : Nat} {j : Int32} {lv : LV} {rest : List Value} {h h' : Hp} {r : Option Value} (hl : lkp me.2.2.2.2.2.1 pc = some (.iaload, 1)) (hj : j = nI a) (ha : a < L) (hL : L ≤ 3072) (k : TT (some (L, xs)) me (pc + 1) lv (.int (xs a) :: rest) h r h') : TT (some (L, xs)) me pc lv (.int j :: .ref 4096 :: rest) h r h' := by
  have hb : inB j L = true := by
    subst hj
    unfold inB
    rw [nI_toInt (by omega), nI_clamp (by omega)]
    simp [ha]
  have hc : j.toNatClampNeg = a := by subst hj; exact nI_clamp (by omega)
  refine TT_step hl rfl rfl ?_ k
  show (bif inB j L then some (pc + 1, lv, Value.int (xs j.toNatClampNeg) :: rest, h) else none) = _
  rw [hb, hc]
  rfl
/-- write: class and reference answer alike, and the invariant is kept -/
def op_write (Inv : Nat → IH → Prop) : Prop := ∀ (p : Nat) (I : IH) (a0 : Int32) (a1 : Int64), Inv p I → ∃ (n1 n2 : Nat) (r : Int32) (I1 I2 : IH), g_X8_write n1 p a0 a1 I = some (r, I1) ∧ g_X9_write n2 a0 a1 I1 = some (r, I2) ∧ Inv p I2
set_option maxRecDepth 20000 in
theorem law_write {L : Nat} {xs : Nat → Int32} {i p n1 n2 : Nat} {r : Int32} {I I1 I2 : IH} {h' : Hp} (hp : p = 5 ∨ p = 18) (hi : i + 6 ≤ L) (hL : L ≤ 3072) (h1 : g_X8_write n1 p (xs (i + 1)) (((Int32.toInt64 (xs (i + 2))) <<< (Int32.toInt64 32 &&& 63)) ||| ((Int32.toInt64 (xs (i + 3))) &&& 4294967295)) I = some (r, I1)) (h2 : g_X9_write n2 (xs (i + 1)) (((Int32.toInt64 (xs (i + 2))) <<< (Int32.toInt64 32 &&& 63)) ||| ((Int32.toInt64 (xs (i + 3))) &&& 4294967295)) I1 = some (r, I2)) (k : TT (some (L, xs)) mt_L 943 [(3, .int (nI i)), (2, .ref 55), (1, .ref 0), (0, .ref 4096)] [] (83, I2, R0 p) (some (.int 1)) h') : TT (some (L, xs)) mt_L 148 [(3, .int (nI i)), (2, .ref 55), (1, .ref 0), (0, .ref 4096)] [] (83, I, R0 p) (some (.int 1)) h' := by
  refine TT_go 5 (pc' := 153) (lv' := [(3, .int (nI i)), (2, .ref 55), (1, .ref 0), (0, .ref 4096)]) (st' := [.int (nI i + 1), .ref 4096, .ref 0]) (h2 := (83, I, R0 p)) rfl ?_
  refine TT_sld (a := i + 1) rfl (nI_add i 1) (by omega) hL ?_
  refine TT_go 0 (pc' := 154) (lv' := [(3, .int (nI i)), (2, .ref 55), (1, .ref 0), (0, .ref 4096)]) (st' := [.int (xs (i + 1)), .ref 0]) (h2 := (83, I, R0 p)) rfl ?_
  refine TT_go 4 (pc' := 158) (lv' := [(3, .int (nI i)), (2, .ref 55), (1, .ref 0), (0, .ref 4096)]) (st' := [.int (nI i + 2), .ref 4096, .int (xs (i + 1)), .ref 0]) (h2 := (83, I, R0 p)) rfl ?_
  refine TT_sld (a := i + 2) rfl (nI_add i 2) (by omega) hL ?_
  refine TT_go 0 (pc' := 159) (lv' := [(3, .int (nI i)), (2, .ref 55), (1, .ref 0), (0, .ref 4096)]) (st' := [.int (xs (i + 2)), .int (xs (i + 1)), .ref 0]) (h2 := (83, I, R0 p)) rfl ?_
  refine TT_go 7 (pc' := 167) (lv' := [(3, .int (nI i)), (2, .ref 55), (1, .ref 0), (0, .ref 4096)]) (st' := [.int (nI i + 3), .ref 4096, .long ((Int32.toInt64 (xs (i + 2))) <<< (Int32.toInt64 32 &&& 63)), .int (xs (i + 1)), .ref 0]) (h2 := (83, I, R0 p)) rfl ?_
  refine TT_sld (a := i + 3) rfl (nI_add i 3) (by omega) hL ?_
  refine TT_go 0 (pc' := 168) (lv' := [(3, .int (nI i)), (2, .ref 55), (1, .ref 0), (0, .ref 4096)]) (st' := [.int (xs (i + 3)), .long ((Int32.toInt64 (xs (i + 2))) <<< (Int32.toInt64 32 &&& 63)), .int (xs (i + 1)), .ref 0]) (h2 := (83, I, R0 p)) rfl ?_
  refine TT_go 4 (pc' := 174) (lv' := [(3, .int (nI i)), (2, .ref 55), (1, .ref 0), (0, .ref 4096)]) (st' := [.long (((Int32.toInt64 (xs (i + 2))) <<< (Int32.toInt64 32 &&& 63)) ||| ((Int32.toInt64 (xs (i + 3))) &&& 4294967295)), .int (xs (i + 1)), .ref 0]) (h2 := (83, I, R0 p)) rfl ?_
  refine TT_call (me' := mt_X8_write) (as := [.ref 0, .int (xs (i + 1)), .long (((Int32.toInt64 (xs (i + 2))) <<< (Int32.toInt64 32 &&& 63)) ||| ((Int32.toInt64 (xs (i + 3))) &&& 4294967295))]) (rest := []) (r1 := some (.int r)) (h1 := (83, I1, R0 p)) rfl rfl rfl (t_X8_write hp h1) ?_
  refine TT_go 0 (pc' := 177) (lv' := [(3, .int (nI i)), (2, .ref 55), (1, .ref 0), (0, .ref 4096)]) (st' := [.int r]) (h2 := (83, I1, R0 p)) rfl ?_
  refine TT_go 5 (pc' := 182) (lv' := [(3, .int (nI i)), (2, .ref 55), (1, .ref 0), (0, .ref 4096)]) (st' := [.int (nI i + 1), .ref 4096, .ref 55, .int r]) (h2 := (83, I1, R0 p)) rfl ?_
  refine TT_sld (a := i + 1) rfl (nI_add i 1) (by omega) hL ?_
  refine TT_go 0 (pc' := 183) (lv' := [(3, .int (nI i)), (2, .ref 55), (1, .ref 0), (0, .ref 4096)]) (st' := [.int (xs (i + 1)), .ref 55, .int r]) (h2 := (83, I1, R0 p)) rfl ?_
  refine TT_go 4 (pc' := 187) (lv' := [(3, .int (nI i)), (2, .ref 55), (1, .ref 0), (0, .ref 4096)]) (st' := [.int (nI i + 2), .ref 4096, .int (xs (i + 1)), .ref 55, .int r]) (h2 := (83, I1, R0 p)) rfl ?_
  refine TT_sld (a := i + 2) rfl (nI_add i 2) (by omega) hL ?_
  refine TT_go 0 (pc' := 188) (lv' := [(3, .int (nI i)), (2, .ref 55), (1, .ref 0), (0, .ref 4096)]) (st' := [.int (xs (i + 2)), .int (xs (i + 1)), .ref 55, .int r]) (h2 := (83, I1, R0 p)) rfl ?_
  refine TT_go 7 (pc' := 196) (lv' := [(3, .int (nI i)), (2, .ref 55), (1, .ref 0), (0, .ref 4096)]) (st' := [.int (nI i + 3), .ref 4096, .long ((Int32.toInt64 (xs (i + 2))) <<< (Int32.toInt64 32 &&& 63)), .int (xs (i + 1)), .ref 55, .int r]) (h2 := (83, I1, R0 p)) rfl ?_
  refine TT_sld (a := i + 3) rfl (nI_add i 3) (by omega) hL ?_
  refine TT_go 0 (pc' := 197) (lv' := [(3, .int (nI i)), (2, .ref 55), (1, .ref 0), (0, .ref 4096)]) (st' := [.int (xs (i + 3)), .long ((Int32.toInt64 (xs (i + 2))) <<< (Int32.toInt64 32 &&& 63)), .int (xs (i + 1)), .ref 55, .int r]) (h2 := (83, I1, R0 p)) rfl ?_
  refine TT_go 4 (pc' := 203) (lv' := [(3, .int (nI i)), (2, .ref 55), (1, .ref 0), (0, .ref 4096)]) (st' := [.long (((Int32.toInt64 (xs (i + 2))) <<< (Int32.toInt64 32 &&& 63)) ||| ((Int32.toInt64 (xs (i + 3))) &&& 4294967295)), .int (xs (i + 1)), .ref 55, .int r]) (h2 := (83, I1, R0 p)) rfl ?_
  refine TT_call (me' := mt_X9_write) (as := [.ref 55, .int (xs (i + 1)), .long (((Int32.toInt64 (xs (i + 2))) <<< (Int32.toInt64 32 &&& 63)) ||| ((Int32.toInt64 (xs (i + 3))) &&& 4294967295))]) (rest := [.int r]) (r1 := some (.int r)) (h1 := (83, I2, R0 p)) rfl rfl rfl (t_X9_write h2) ?_
  refine TT_go 0 (pc' := 206) (lv' := [(3, .int (nI i)), (2, .ref 55), (1, .ref 0), (0, .ref 4096)]) (st' := [.int r, .int r]) (h2 := (83, I2, R0 p)) rfl ?_
  exact TT_ieq_t (t := 943) rfl rfl rfl k
/-- wipe: class and reference answer alike, and the invariant is kept -/
def op_wipe (Inv : Nat → IH → Prop) : Prop := ∀ (p : Nat) (I : IH), Inv p I → ∃ (n1 n2 : Nat) (r : Int32) (I1 I2 : IH), g_X8_wipe n1 p I = some (r, I1) ∧ g_X9_wipe n2 I1 = some (r, I2) ∧ Inv p I2
set_option maxRecDepth 20000 in
theorem law_wipe {L : Nat} {xs : Nat → Int32} {i p n1 n2 : Nat} {r : Int32} {I I1 I2 : IH} {h' : Hp} (hp : p = 5 ∨ p = 18) (hi : i + 6 ≤ L) (hL : L ≤ 3072) (h1 : g_X8_wipe n1 p I = some (r, I1)) (h2 : g_X9_wipe n2 I1 = some (r, I2)) (k : TT (some (L, xs)) mt_L 943 [(3, .int (nI i)), (2, .ref 55), (1, .ref 0), (0, .ref 4096)] [] (83, I2, R0 p) (some (.int 1)) h') : TT (some (L, xs)) mt_L 211 [(3, .int (nI i)), (2, .ref 55), (1, .ref 0), (0, .ref 4096)] [] (83, I, R0 p) (some (.int 1)) h' := by
  refine TT_go 1 (pc' := 212) (lv' := [(3, .int (nI i)), (2, .ref 55), (1, .ref 0), (0, .ref 4096)]) (st' := [.ref 0]) (h2 := (83, I, R0 p)) rfl ?_
  refine TT_call (me' := mt_X8_wipe) (as := [.ref 0]) (rest := []) (r1 := some (.int r)) (h1 := (83, I1, R0 p)) rfl rfl rfl (t_X8_wipe hp h1) ?_
  refine TT_go 0 (pc' := 215) (lv' := [(3, .int (nI i)), (2, .ref 55), (1, .ref 0), (0, .ref 4096)]) (st' := [.int r]) (h2 := (83, I1, R0 p)) rfl ?_
  refine TT_go 1 (pc' := 216) (lv' := [(3, .int (nI i)), (2, .ref 55), (1, .ref 0), (0, .ref 4096)]) (st' := [.ref 55, .int r]) (h2 := (83, I1, R0 p)) rfl ?_
  refine TT_call (me' := mt_X9_wipe) (as := [.ref 55]) (rest := [.int r]) (r1 := some (.int r)) (h1 := (83, I2, R0 p)) rfl rfl rfl (t_X9_wipe h2) ?_
  refine TT_go 0 (pc' := 219) (lv' := [(3, .int (nI i)), (2, .ref 55), (1, .ref 0), (0, .ref 4096)]) (st' := [.int r, .int r]) (h2 := (83, I2, R0 p)) rfl ?_
  exact TT_ieq_t (t := 943) rfl rfl rfl k
/-- fault: class and reference answer alike, and the invariant is kept -/
def op_fault (Inv : Nat → IH → Prop) : Prop := ∀ (p : Nat) (I : IH), Inv p I → ∃ (n1 n2 : Nat) (r : Int32) (I1 I2 : IH), g_X8_fault n1 p I = some (r, I1) ∧ g_X9_fault n2 I1 = some (r, I2) ∧ Inv p I2
set_option maxRecDepth 20000 in
theorem law_fault {L : Nat} {xs : Nat → Int32} {i p n1 n2 : Nat} {r : Int32} {I I1 I2 : IH} {h' : Hp} (hp : p = 5 ∨ p = 18) (hi : i + 6 ≤ L) (hL : L ≤ 3072) (h1 : g_X8_fault n1 p I = some (r, I1)) (h2 : g_X9_fault n2 I1 = some (r, I2)) (k : TT (some (L, xs)) mt_L 943 [(3, .int (nI i)), (2, .ref 55), (1, .ref 0), (0, .ref 4096)] [] (83, I2, R0 p) (some (.int 1)) h') : TT (some (L, xs)) mt_L 224 [(3, .int (nI i)), (2, .ref 55), (1, .ref 0), (0, .ref 4096)] [] (83, I, R0 p) (some (.int 1)) h' := by
  refine TT_go 1 (pc' := 225) (lv' := [(3, .int (nI i)), (2, .ref 55), (1, .ref 0), (0, .ref 4096)]) (st' := [.ref 0]) (h2 := (83, I, R0 p)) rfl ?_
  refine TT_call (me' := mt_X8_fault) (as := [.ref 0]) (rest := []) (r1 := some (.int r)) (h1 := (83, I1, R0 p)) rfl rfl rfl (t_X8_fault hp h1) ?_
  refine TT_go 0 (pc' := 228) (lv' := [(3, .int (nI i)), (2, .ref 55), (1, .ref 0), (0, .ref 4096)]) (st' := [.int r]) (h2 := (83, I1, R0 p)) rfl ?_
  refine TT_go 1 (pc' := 229) (lv' := [(3, .int (nI i)), (2, .ref 55), (1, .ref 0), (0, .ref 4096)]) (st' := [.ref 55, .int r]) (h2 := (83, I1, R0 p)) rfl ?_
  refine TT_call (me' := mt_X9_fault) (as := [.ref 55]) (rest := [.int r]) (r1 := some (.int r)) (h1 := (83, I2, R0 p)) rfl rfl rfl (t_X9_fault h2) ?_
  refine TT_go 0 (pc' := 232) (lv' := [(3, .int (nI i)), (2, .ref 55), (1, .ref 0), (0, .ref 4096)]) (st' := [.int r, .int r]) (h2 := (83, I2, R0 p)) rfl ?_
  exact TT_ieq_t (t := 943) rfl rfl rfl k
/-- lay: class and reference answer alike, and the invariant is kept -/
def op_lay (Inv : Nat → IH → Prop) : Prop := ∀ (p : Nat) (I : IH), Inv p I → ∃ (n1 n2 : Nat) (r : Int32) (I1 I2 : IH) (p' : Nat), g_X8_lay n1 p I = some (r, I1, p') ∧ g_X9_lay n2 I1 = some (r, I2) ∧ Inv p' I2
set_option maxRecDepth 20000 in
theorem law_lay {L : Nat} {xs : Nat → Int32} {i p p' n1 n2 : Nat} {r : Int32} {I I1 I2 : IH} {h' : Hp} (hp : p = 5 ∨ p = 18) (hi : i + 6 ≤ L) (hL : L ≤ 3072) (h1 : g_X8_lay n1 p I = some (r, I1, p')) (h2 : g_X9_lay n2 I1 = some (r, I2)) (k : TT (some (L, xs)) mt_L 943 [(3, .int (nI i)), (2, .ref 55), (1, .ref 0), (0, .ref 4096)] [] (83, I2, R0 p') (some (.int 1)) h') : TT (some (L, xs)) mt_L 237 [(3, .int (nI i)), (2, .ref 55), (1, .ref 0), (0, .ref 4096)] [] (83, I, R0 p) (some (.int 1)) h' := by
  refine TT_go 1 (pc' := 238) (lv' := [(3, .int (nI i)), (2, .ref 55), (1, .ref 0), (0, .ref 4096)]) (st' := [.ref 0]) (h2 := (83, I, R0 p)) rfl ?_
  have h83 : (83, I1, R0 p') = (83, (r, I1, p').2.1, R0 (r, I1, p').2.2) := rfl
  refine TT_call (me' := mt_X8_lay) (as := [.ref 0]) (rest := []) (r1 := some (.int r)) (h1 := (83, I1, R0 p')) rfl rfl rfl (t_X8_lay hp h1) ?_
  refine TT_go 0 (pc' := 241) (lv' := [(3, .int (nI i)), (2, .ref 55), (1, .ref 0), (0, .ref 4096)]) (st' := [.int r]) (h2 := (83, I1, R0 p')) rfl ?_
  refine TT_go 1 (pc' := 242) (lv' := [(3, .int (nI i)), (2, .ref 55), (1, .ref 0), (0, .ref 4096)]) (st' := [.ref 55, .int r]) (h2 := (83, I1, R0 p')) rfl ?_
  refine TT_call (me' := mt_X9_lay) (as := [.ref 55]) (rest := [.int r]) (r1 := some (.int r)) (h1 := (83, I2, R0 p')) rfl rfl rfl (t_X9_lay h2) ?_
  refine TT_go 0 (pc' := 245) (lv' := [(3, .int (nI i)), (2, .ref 55), (1, .ref 0), (0, .ref 4096)]) (st' := [.int r, .int r]) (h2 := (83, I2, R0 p')) rfl ?_
  exact TT_ieq_t (t := 943) rfl rfl rfl k
/-- glass: class and reference answer alike, and the invariant is kept -/
def op_glass (Inv : Nat → IH → Prop) : Prop := ∀ (p : Nat) (I : IH) (a0 : Int32) (a1 : Int32), Inv p I → ∃ (n1 n2 : Nat) (r : Int32) (I1 I2 : IH), g_X8_glass n1 p a0 a1 I = some (r, I1) ∧ g_X9_glass n2 a0 a1 I1 = some (r, I2) ∧ Inv p I2
set_option maxRecDepth 20000 in
theorem law_glass {L : Nat} {xs : Nat → Int32} {i p n1 n2 : Nat} {r : Int32} {I I1 I2 : IH} {h' : Hp} (hp : p = 5 ∨ p = 18) (hi : i + 6 ≤ L) (hL : L ≤ 3072) (h1 : g_X8_glass n1 p (xs (i + 1)) (xs (i + 2)) I = some (r, I1)) (h2 : g_X9_glass n2 (xs (i + 1)) (xs (i + 2)) I1 = some (r, I2)) (k : TT (some (L, xs)) mt_L 943 [(3, .int (nI i)), (2, .ref 55), (1, .ref 0), (0, .ref 4096)] [] (83, I2, R0 p) (some (.int 1)) h') : TT (some (L, xs)) mt_L 250 [(3, .int (nI i)), (2, .ref 55), (1, .ref 0), (0, .ref 4096)] [] (83, I, R0 p) (some (.int 1)) h' := by
  refine TT_go 5 (pc' := 255) (lv' := [(3, .int (nI i)), (2, .ref 55), (1, .ref 0), (0, .ref 4096)]) (st' := [.int (nI i + 1), .ref 4096, .ref 0]) (h2 := (83, I, R0 p)) rfl ?_
  refine TT_sld (a := i + 1) rfl (nI_add i 1) (by omega) hL ?_
  refine TT_go 0 (pc' := 256) (lv' := [(3, .int (nI i)), (2, .ref 55), (1, .ref 0), (0, .ref 4096)]) (st' := [.int (xs (i + 1)), .ref 0]) (h2 := (83, I, R0 p)) rfl ?_
  refine TT_go 4 (pc' := 260) (lv' := [(3, .int (nI i)), (2, .ref 55), (1, .ref 0), (0, .ref 4096)]) (st' := [.int (nI i + 2), .ref 4096, .int (xs (i + 1)), .ref 0]) (h2 := (83, I, R0 p)) rfl ?_
  refine TT_sld (a := i + 2) rfl (nI_add i 2) (by omega) hL ?_
  refine TT_go 0 (pc' := 261) (lv' := [(3, .int (nI i)), (2, .ref 55), (1, .ref 0), (0, .ref 4096)]) (st' := [.int (xs (i + 2)), .int (xs (i + 1)), .ref 0]) (h2 := (83, I, R0 p)) rfl ?_
  refine TT_call (me' := mt_X8_glass) (as := [.ref 0, .int (xs (i + 1)), .int (xs (i + 2))]) (rest := []) (r1 := some (.int r)) (h1 := (83, I1, R0 p)) rfl rfl rfl (t_X8_glass hp h1) ?_
  refine TT_go 0 (pc' := 264) (lv' := [(3, .int (nI i)), (2, .ref 55), (1, .ref 0), (0, .ref 4096)]) (st' := [.int r]) (h2 := (83, I1, R0 p)) rfl ?_
  refine TT_go 5 (pc' := 269) (lv' := [(3, .int (nI i)), (2, .ref 55), (1, .ref 0), (0, .ref 4096)]) (st' := [.int (nI i + 1), .ref 4096, .ref 55, .int r]) (h2 := (83, I1, R0 p)) rfl ?_
  refine TT_sld (a := i + 1) rfl (nI_add i 1) (by omega) hL ?_
  refine TT_go 0 (pc' := 270) (lv' := [(3, .int (nI i)), (2, .ref 55), (1, .ref 0), (0, .ref 4096)]) (st' := [.int (xs (i + 1)), .ref 55, .int r]) (h2 := (83, I1, R0 p)) rfl ?_
  refine TT_go 4 (pc' := 274) (lv' := [(3, .int (nI i)), (2, .ref 55), (1, .ref 0), (0, .ref 4096)]) (st' := [.int (nI i + 2), .ref 4096, .int (xs (i + 1)), .ref 55, .int r]) (h2 := (83, I1, R0 p)) rfl ?_
  refine TT_sld (a := i + 2) rfl (nI_add i 2) (by omega) hL ?_
  refine TT_go 0 (pc' := 275) (lv' := [(3, .int (nI i)), (2, .ref 55), (1, .ref 0), (0, .ref 4096)]) (st' := [.int (xs (i + 2)), .int (xs (i + 1)), .ref 55, .int r]) (h2 := (83, I1, R0 p)) rfl ?_
  refine TT_call (me' := mt_X9_glass) (as := [.ref 55, .int (xs (i + 1)), .int (xs (i + 2))]) (rest := [.int r]) (r1 := some (.int r)) (h1 := (83, I2, R0 p)) rfl rfl rfl (t_X9_glass h2) ?_
  refine TT_go 0 (pc' := 278) (lv' := [(3, .int (nI i)), (2, .ref 55), (1, .ref 0), (0, .ref 4096)]) (st' := [.int r, .int r]) (h2 := (83, I2, R0 p)) rfl ?_
  exact TT_ieq_t (t := 943) rfl rfl rfl k
/-- has: class and reference answer alike, and the invariant is kept -/
def op_has (Inv : Nat → IH → Prop) : Prop := ∀ (p : Nat) (I : IH) (a0 : Int32), Inv p I → ∃ (n1 n2 : Nat) (r : Int32) (I1 I2 : IH), g_X8_has n1 p a0 I = some (r, I1) ∧ g_X9_has n2 a0 I1 = some (r, I2) ∧ Inv p I2
set_option maxRecDepth 20000 in
theorem law_has {L : Nat} {xs : Nat → Int32} {i p n1 n2 : Nat} {r : Int32} {I I1 I2 : IH} {h' : Hp} (hp : p = 5 ∨ p = 18) (hi : i + 6 ≤ L) (hL : L ≤ 3072) (h1 : g_X8_has n1 p (xs (i + 1)) I = some (r, I1)) (h2 : g_X9_has n2 (xs (i + 1)) I1 = some (r, I2)) (k : TT (some (L, xs)) mt_L 943 [(3, .int (nI i)), (2, .ref 55), (1, .ref 0), (0, .ref 4096)] [] (83, I2, R0 p) (some (.int 1)) h') : TT (some (L, xs)) mt_L 283 [(3, .int (nI i)), (2, .ref 55), (1, .ref 0), (0, .ref 4096)] [] (83, I, R0 p) (some (.int 1)) h' := by
  refine TT_go 5 (pc' := 288) (lv' := [(3, .int (nI i)), (2, .ref 55), (1, .ref 0), (0, .ref 4096)]) (st' := [.int (nI i + 1), .ref 4096, .ref 0]) (h2 := (83, I, R0 p)) rfl ?_
  refine TT_sld (a := i + 1) rfl (nI_add i 1) (by omega) hL ?_
  refine TT_go 0 (pc' := 289) (lv' := [(3, .int (nI i)), (2, .ref 55), (1, .ref 0), (0, .ref 4096)]) (st' := [.int (xs (i + 1)), .ref 0]) (h2 := (83, I, R0 p)) rfl ?_
  refine TT_call (me' := mt_X8_has) (as := [.ref 0, .int (xs (i + 1))]) (rest := []) (r1 := some (.int r)) (h1 := (83, I1, R0 p)) rfl rfl rfl (t_X8_has hp h1) ?_
  refine TT_go 0 (pc' := 292) (lv' := [(3, .int (nI i)), (2, .ref 55), (1, .ref 0), (0, .ref 4096)]) (st' := [.int r]) (h2 := (83, I1, R0 p)) rfl ?_
  refine TT_go 5 (pc' := 297) (lv' := [(3, .int (nI i)), (2, .ref 55), (1, .ref 0), (0, .ref 4096)]) (st' := [.int (nI i + 1), .ref 4096, .ref 55, .int r]) (h2 := (83, I1, R0 p)) rfl ?_
  refine TT_sld (a := i + 1) rfl (nI_add i 1) (by omega) hL ?_
  refine TT_go 0 (pc' := 298) (lv' := [(3, .int (nI i)), (2, .ref 55), (1, .ref 0), (0, .ref 4096)]) (st' := [.int (xs (i + 1)), .ref 55, .int r]) (h2 := (83, I1, R0 p)) rfl ?_
  refine TT_call (me' := mt_X9_has) (as := [.ref 55, .int (xs (i + 1))]) (rest := [.int r]) (r1 := some (.int r)) (h1 := (83, I2, R0 p)) rfl rfl rfl (t_X9_has h2) ?_
  refine TT_go 0 (pc' := 301) (lv' := [(3, .int (nI i)), (2, .ref 55), (1, .ref 0), (0, .ref 4096)]) (st' := [.int r, .int r]) (h2 := (83, I2, R0 p)) rfl ?_
  exact TT_ieq_t (t := 943) rfl rfl rfl k
/-- minutes: class and reference answer alike, and the invariant is kept -/
def op_minutes (Inv : Nat → IH → Prop) : Prop := ∀ (p : Nat) (I : IH) (a0 : Int32), Inv p I → ∃ (n1 n2 : Nat) (r : Int32) (I1 I2 : IH), g_X8_minutes n1 p a0 I = some (r, I1) ∧ g_X9_minutes n2 a0 I1 = some (r, I2) ∧ Inv p I2
set_option maxRecDepth 20000 in
theorem law_minutes {L : Nat} {xs : Nat → Int32} {i p n1 n2 : Nat} {r : Int32} {I I1 I2 : IH} {h' : Hp} (hp : p = 5 ∨ p = 18) (hi : i + 6 ≤ L) (hL : L ≤ 3072) (h1 : g_X8_minutes n1 p (xs (i + 1)) I = some (r, I1)) (h2 : g_X9_minutes n2 (xs (i + 1)) I1 = some (r, I2)) (k : TT (some (L, xs)) mt_L 943 [(3, .int (nI i)), (2, .ref 55), (1, .ref 0), (0, .ref 4096)] [] (83, I2, R0 p) (some (.int 1)) h') : TT (some (L, xs)) mt_L 306 [(3, .int (nI i)), (2, .ref 55), (1, .ref 0), (0, .ref 4096)] [] (83, I, R0 p) (some (.int 1)) h' := by
  refine TT_go 5 (pc' := 311) (lv' := [(3, .int (nI i)), (2, .ref 55), (1, .ref 0), (0, .ref 4096)]) (st' := [.int (nI i + 1), .ref 4096, .ref 0]) (h2 := (83, I, R0 p)) rfl ?_
  refine TT_sld (a := i + 1) rfl (nI_add i 1) (by omega) hL ?_
  refine TT_go 0 (pc' := 312) (lv' := [(3, .int (nI i)), (2, .ref 55), (1, .ref 0), (0, .ref 4096)]) (st' := [.int (xs (i + 1)), .ref 0]) (h2 := (83, I, R0 p)) rfl ?_
  refine TT_call (me' := mt_X8_minutes) (as := [.ref 0, .int (xs (i + 1))]) (rest := []) (r1 := some (.int r)) (h1 := (83, I1, R0 p)) rfl rfl rfl (t_X8_minutes hp h1) ?_
  refine TT_go 0 (pc' := 315) (lv' := [(3, .int (nI i)), (2, .ref 55), (1, .ref 0), (0, .ref 4096)]) (st' := [.int r]) (h2 := (83, I1, R0 p)) rfl ?_
  refine TT_go 5 (pc' := 320) (lv' := [(3, .int (nI i)), (2, .ref 55), (1, .ref 0), (0, .ref 4096)]) (st' := [.int (nI i + 1), .ref 4096, .ref 55, .int r]) (h2 := (83, I1, R0 p)) rfl ?_
  refine TT_sld (a := i + 1) rfl (nI_add i 1) (by omega) hL ?_
  refine TT_go 0 (pc' := 321) (lv' := [(3, .int (nI i)), (2, .ref 55), (1, .ref 0), (0, .ref 4096)]) (st' := [.int (xs (i + 1)), .ref 55, .int r]) (h2 := (83, I1, R0 p)) rfl ?_
  refine TT_call (me' := mt_X9_minutes) (as := [.ref 55, .int (xs (i + 1))]) (rest := [.int r]) (r1 := some (.int r)) (h1 := (83, I2, R0 p)) rfl rfl rfl (t_X9_minutes h2) ?_
  refine TT_go 0 (pc' := 324) (lv' := [(3, .int (nI i)), (2, .ref 55), (1, .ref 0), (0, .ref 4096)]) (st' := [.int r, .int r]) (h2 := (83, I2, R0 p)) rfl ?_
  exact TT_ieq_t (t := 943) rfl rfl rfl k
/-- turn: class and reference answer alike, and the invariant is kept -/
def op_turn (Inv : Nat → IH → Prop) : Prop := ∀ (p : Nat) (I : IH) (a0 : Int32), Inv p I → ∃ (n1 n2 : Nat) (r : Int32) (I1 I2 : IH), g_X8_turn n1 p a0 I = some (r, I1) ∧ g_X9_turn n2 a0 I1 = some (r, I2) ∧ Inv p I2
set_option maxRecDepth 20000 in
theorem law_turn {L : Nat} {xs : Nat → Int32} {i p n1 n2 : Nat} {r : Int32} {I I1 I2 : IH} {h' : Hp} (hp : p = 5 ∨ p = 18) (hi : i + 6 ≤ L) (hL : L ≤ 3072) (h1 : g_X8_turn n1 p (xs (i + 1)) I = some (r, I1)) (h2 : g_X9_turn n2 (xs (i + 1)) I1 = some (r, I2)) (k : TT (some (L, xs)) mt_L 943 [(3, .int (nI i)), (2, .ref 55), (1, .ref 0), (0, .ref 4096)] [] (83, I2, R0 p) (some (.int 1)) h') : TT (some (L, xs)) mt_L 329 [(3, .int (nI i)), (2, .ref 55), (1, .ref 0), (0, .ref 4096)] [] (83, I, R0 p) (some (.int 1)) h' := by
  refine TT_go 5 (pc' := 334) (lv' := [(3, .int (nI i)), (2, .ref 55), (1, .ref 0), (0, .ref 4096)]) (st' := [.int (nI i + 1), .ref 4096, .ref 0]) (h2 := (83, I, R0 p)) rfl ?_
  refine TT_sld (a := i + 1) rfl (nI_add i 1) (by omega) hL ?_
  refine TT_go 0 (pc' := 335) (lv' := [(3, .int (nI i)), (2, .ref 55), (1, .ref 0), (0, .ref 4096)]) (st' := [.int (xs (i + 1)), .ref 0]) (h2 := (83, I, R0 p)) rfl ?_
  refine TT_call (me' := mt_X8_turn) (as := [.ref 0, .int (xs (i + 1))]) (rest := []) (r1 := some (.int r)) (h1 := (83, I1, R0 p)) rfl rfl rfl (t_X8_turn hp h1) ?_
  refine TT_go 0 (pc' := 338) (lv' := [(3, .int (nI i)), (2, .ref 55), (1, .ref 0), (0, .ref 4096)]) (st' := [.int r]) (h2 := (83, I1, R0 p)) rfl ?_
  refine TT_go 5 (pc' := 343) (lv' := [(3, .int (nI i)), (2, .ref 55), (1, .ref 0), (0, .ref 4096)]) (st' := [.int (nI i + 1), .ref 4096, .ref 55, .int r]) (h2 := (83, I1, R0 p)) rfl ?_
  refine TT_sld (a := i + 1) rfl (nI_add i 1) (by omega) hL ?_
  refine TT_go 0 (pc' := 344) (lv' := [(3, .int (nI i)), (2, .ref 55), (1, .ref 0), (0, .ref 4096)]) (st' := [.int (xs (i + 1)), .ref 55, .int r]) (h2 := (83, I1, R0 p)) rfl ?_
  refine TT_call (me' := mt_X9_turn) (as := [.ref 55, .int (xs (i + 1))]) (rest := [.int r]) (r1 := some (.int r)) (h1 := (83, I2, R0 p)) rfl rfl rfl (t_X9_turn h2) ?_
  refine TT_go 0 (pc' := 347) (lv' := [(3, .int (nI i)), (2, .ref 55), (1, .ref 0), (0, .ref 4096)]) (st' := [.int r, .int r]) (h2 := (83, I2, R0 p)) rfl ?_
  exact TT_ieq_t (t := 943) rfl rfl rfl k
/-- pour: class and reference answer alike, and the invariant is kept -/
def op_pour (Inv : Nat → IH → Prop) : Prop := ∀ (p : Nat) (I : IH) (a0 : Int32) (a1 : Int32) (a2 : Int32) (a3 : Int32) (a4 : Int32), Inv p I → ∃ (n1 n2 : Nat) (r : Int32) (I1 I2 : IH), g_X8_pour n1 p a0 a1 a2 a3 a4 I = some (r, I1) ∧ g_X9_pour n2 a0 a1 a2 a3 a4 I1 = some (r, I2) ∧ Inv p I2
set_option maxRecDepth 20000 in
theorem law_pour {L : Nat} {xs : Nat → Int32} {i p n1 n2 : Nat} {r : Int32} {I I1 I2 : IH} {h' : Hp} (hp : p = 5 ∨ p = 18) (hi : i + 6 ≤ L) (hL : L ≤ 3072) (h1 : g_X8_pour n1 p (xs (i + 1)) (xs (i + 2)) (xs (i + 3)) (xs (i + 4)) (xs (i + 5)) I = some (r, I1)) (h2 : g_X9_pour n2 (xs (i + 1)) (xs (i + 2)) (xs (i + 3)) (xs (i + 4)) (xs (i + 5)) I1 = some (r, I2)) (k : TT (some (L, xs)) mt_L 943 [(3, .int (nI i)), (2, .ref 55), (1, .ref 0), (0, .ref 4096)] [] (83, I2, R0 p) (some (.int 1)) h') : TT (some (L, xs)) mt_L 352 [(3, .int (nI i)), (2, .ref 55), (1, .ref 0), (0, .ref 4096)] [] (83, I, R0 p) (some (.int 1)) h' := by
  refine TT_go 5 (pc' := 357) (lv' := [(3, .int (nI i)), (2, .ref 55), (1, .ref 0), (0, .ref 4096)]) (st' := [.int (nI i + 1), .ref 4096, .ref 0]) (h2 := (83, I, R0 p)) rfl ?_
  refine TT_sld (a := i + 1) rfl (nI_add i 1) (by omega) hL ?_
  refine TT_go 0 (pc' := 358) (lv' := [(3, .int (nI i)), (2, .ref 55), (1, .ref 0), (0, .ref 4096)]) (st' := [.int (xs (i + 1)), .ref 0]) (h2 := (83, I, R0 p)) rfl ?_
  refine TT_go 4 (pc' := 362) (lv' := [(3, .int (nI i)), (2, .ref 55), (1, .ref 0), (0, .ref 4096)]) (st' := [.int (nI i + 2), .ref 4096, .int (xs (i + 1)), .ref 0]) (h2 := (83, I, R0 p)) rfl ?_
  refine TT_sld (a := i + 2) rfl (nI_add i 2) (by omega) hL ?_
  refine TT_go 0 (pc' := 363) (lv' := [(3, .int (nI i)), (2, .ref 55), (1, .ref 0), (0, .ref 4096)]) (st' := [.int (xs (i + 2)), .int (xs (i + 1)), .ref 0]) (h2 := (83, I, R0 p)) rfl ?_
  refine TT_go 4 (pc' := 367) (lv' := [(3, .int (nI i)), (2, .ref 55), (1, .ref 0), (0, .ref 4096)]) (st' := [.int (nI i + 3), .ref 4096, .int (xs (i + 2)), .int (xs (i + 1)), .ref 0]) (h2 := (83, I, R0 p)) rfl ?_
  refine TT_sld (a := i + 3) rfl (nI_add i 3) (by omega) hL ?_
  refine TT_go 0 (pc' := 368) (lv' := [(3, .int (nI i)), (2, .ref 55), (1, .ref 0), (0, .ref 4096)]) (st' := [.int (xs (i + 3)), .int (xs (i + 2)), .int (xs (i + 1)), .ref 0]) (h2 := (83, I, R0 p)) rfl ?_
  refine TT_go 4 (pc' := 372) (lv' := [(3, .int (nI i)), (2, .ref 55), (1, .ref 0), (0, .ref 4096)]) (st' := [.int (nI i + 4), .ref 4096, .int (xs (i + 3)), .int (xs (i + 2)), .int (xs (i + 1)), .ref 0]) (h2 := (83, I, R0 p)) rfl ?_
  refine TT_sld (a := i + 4) rfl (nI_add i 4) (by omega) hL ?_
  refine TT_go 0 (pc' := 373) (lv' := [(3, .int (nI i)), (2, .ref 55), (1, .ref 0), (0, .ref 4096)]) (st' := [.int (xs (i + 4)), .int (xs (i + 3)), .int (xs (i + 2)), .int (xs (i + 1)), .ref 0]) (h2 := (83, I, R0 p)) rfl ?_
  refine TT_go 4 (pc' := 377) (lv' := [(3, .int (nI i)), (2, .ref 55), (1, .ref 0), (0, .ref 4096)]) (st' := [.int (nI i + 5), .ref 4096, .int (xs (i + 4)), .int (xs (i + 3)), .int (xs (i + 2)), .int (xs (i + 1)), .ref 0]) (h2 := (83, I, R0 p)) rfl ?_
  refine TT_sld (a := i + 5) rfl (nI_add i 5) (by omega) hL ?_
  refine TT_go 0 (pc' := 378) (lv' := [(3, .int (nI i)), (2, .ref 55), (1, .ref 0), (0, .ref 4096)]) (st' := [.int (xs (i + 5)), .int (xs (i + 4)), .int (xs (i + 3)), .int (xs (i + 2)), .int (xs (i + 1)), .ref 0]) (h2 := (83, I, R0 p)) rfl ?_
  refine TT_call (me' := mt_X8_pour) (as := [.ref 0, .int (xs (i + 1)), .int (xs (i + 2)), .int (xs (i + 3)), .int (xs (i + 4)), .int (xs (i + 5))]) (rest := []) (r1 := some (.int r)) (h1 := (83, I1, R0 p)) rfl rfl rfl (t_X8_pour hp h1) ?_
  refine TT_go 0 (pc' := 381) (lv' := [(3, .int (nI i)), (2, .ref 55), (1, .ref 0), (0, .ref 4096)]) (st' := [.int r]) (h2 := (83, I1, R0 p)) rfl ?_
  refine TT_go 5 (pc' := 386) (lv' := [(3, .int (nI i)), (2, .ref 55), (1, .ref 0), (0, .ref 4096)]) (st' := [.int (nI i + 1), .ref 4096, .ref 55, .int r]) (h2 := (83, I1, R0 p)) rfl ?_
  refine TT_sld (a := i + 1) rfl (nI_add i 1) (by omega) hL ?_
  refine TT_go 0 (pc' := 387) (lv' := [(3, .int (nI i)), (2, .ref 55), (1, .ref 0), (0, .ref 4096)]) (st' := [.int (xs (i + 1)), .ref 55, .int r]) (h2 := (83, I1, R0 p)) rfl ?_
  refine TT_go 4 (pc' := 391) (lv' := [(3, .int (nI i)), (2, .ref 55), (1, .ref 0), (0, .ref 4096)]) (st' := [.int (nI i + 2), .ref 4096, .int (xs (i + 1)), .ref 55, .int r]) (h2 := (83, I1, R0 p)) rfl ?_
  refine TT_sld (a := i + 2) rfl (nI_add i 2) (by omega) hL ?_
  refine TT_go 0 (pc' := 392) (lv' := [(3, .int (nI i)), (2, .ref 55), (1, .ref 0), (0, .ref 4096)]) (st' := [.int (xs (i + 2)), .int (xs (i + 1)), .ref 55, .int r]) (h2 := (83, I1, R0 p)) rfl ?_
  refine TT_go 4 (pc' := 396) (lv' := [(3, .int (nI i)), (2, .ref 55), (1, .ref 0), (0, .ref 4096)]) (st' := [.int (nI i + 3), .ref 4096, .int (xs (i + 2)), .int (xs (i + 1)), .ref 55, .int r]) (h2 := (83, I1, R0 p)) rfl ?_
  refine TT_sld (a := i + 3) rfl (nI_add i 3) (by omega) hL ?_
  refine TT_go 0 (pc' := 397) (lv' := [(3, .int (nI i)), (2, .ref 55), (1, .ref 0), (0, .ref 4096)]) (st' := [.int (xs (i + 3)), .int (xs (i + 2)), .int (xs (i + 1)), .ref 55, .int r]) (h2 := (83, I1, R0 p)) rfl ?_
  refine TT_go 4 (pc' := 401) (lv' := [(3, .int (nI i)), (2, .ref 55), (1, .ref 0), (0, .ref 4096)]) (st' := [.int (nI i + 4), .ref 4096, .int (xs (i + 3)), .int (xs (i + 2)), .int (xs (i + 1)), .ref 55, .int r]) (h2 := (83, I1, R0 p)) rfl ?_
  refine TT_sld (a := i + 4) rfl (nI_add i 4) (by omega) hL ?_
  refine TT_go 0 (pc' := 402) (lv' := [(3, .int (nI i)), (2, .ref 55), (1, .ref 0), (0, .ref 4096)]) (st' := [.int (xs (i + 4)), .int (xs (i + 3)), .int (xs (i + 2)), .int (xs (i + 1)), .ref 55, .int r]) (h2 := (83, I1, R0 p)) rfl ?_
  refine TT_go 4 (pc' := 406) (lv' := [(3, .int (nI i)), (2, .ref 55), (1, .ref 0), (0, .ref 4096)]) (st' := [.int (nI i + 5), .ref 4096, .int (xs (i + 4)), .int (xs (i + 3)), .int (xs (i + 2)), .int (xs (i + 1)), .ref 55, .int r]) (h2 := (83, I1, R0 p)) rfl ?_
  refine TT_sld (a := i + 5) rfl (nI_add i 5) (by omega) hL ?_
  refine TT_go 0 (pc' := 407) (lv' := [(3, .int (nI i)), (2, .ref 55), (1, .ref 0), (0, .ref 4096)]) (st' := [.int (xs (i + 5)), .int (xs (i + 4)), .int (xs (i + 3)), .int (xs (i + 2)), .int (xs (i + 1)), .ref 55, .int r]) (h2 := (83, I1, R0 p)) rfl ?_
  refine TT_call (me' := mt_X9_pour) (as := [.ref 55, .int (xs (i + 1)), .int (xs (i + 2)), .int (xs (i + 3)), .int (xs (i + 4)), .int (xs (i + 5))]) (rest := [.int r]) (r1 := some (.int r)) (h1 := (83, I2, R0 p)) rfl rfl rfl (t_X9_pour h2) ?_
  refine TT_go 0 (pc' := 410) (lv' := [(3, .int (nI i)), (2, .ref 55), (1, .ref 0), (0, .ref 4096)]) (st' := [.int r, .int r]) (h2 := (83, I2, R0 p)) rfl ?_
  exact TT_ieq_t (t := 943) rfl rfl rfl k
/-- undo: class and reference answer alike, and the invariant is kept -/
def op_undo (Inv : Nat → IH → Prop) : Prop := ∀ (p : Nat) (I : IH), Inv p I → ∃ (n1 n2 : Nat) (r : Int32) (I1 I2 : IH), g_X8_undo n1 p I = some (r, I1) ∧ g_X9_undo n2 I1 = some (r, I2) ∧ Inv p I2
set_option maxRecDepth 20000 in
theorem law_undo {L : Nat} {xs : Nat → Int32} {i p n1 n2 : Nat} {r : Int32} {I I1 I2 : IH} {h' : Hp} (hp : p = 5 ∨ p = 18) (hi : i + 6 ≤ L) (hL : L ≤ 3072) (h1 : g_X8_undo n1 p I = some (r, I1)) (h2 : g_X9_undo n2 I1 = some (r, I2)) (k : TT (some (L, xs)) mt_L 943 [(3, .int (nI i)), (2, .ref 55), (1, .ref 0), (0, .ref 4096)] [] (83, I2, R0 p) (some (.int 1)) h') : TT (some (L, xs)) mt_L 415 [(3, .int (nI i)), (2, .ref 55), (1, .ref 0), (0, .ref 4096)] [] (83, I, R0 p) (some (.int 1)) h' := by
  refine TT_go 1 (pc' := 416) (lv' := [(3, .int (nI i)), (2, .ref 55), (1, .ref 0), (0, .ref 4096)]) (st' := [.ref 0]) (h2 := (83, I, R0 p)) rfl ?_
  refine TT_call (me' := mt_X8_undo) (as := [.ref 0]) (rest := []) (r1 := some (.int r)) (h1 := (83, I1, R0 p)) rfl rfl rfl (t_X8_undo hp h1) ?_
  refine TT_go 0 (pc' := 419) (lv' := [(3, .int (nI i)), (2, .ref 55), (1, .ref 0), (0, .ref 4096)]) (st' := [.int r]) (h2 := (83, I1, R0 p)) rfl ?_
  refine TT_go 1 (pc' := 420) (lv' := [(3, .int (nI i)), (2, .ref 55), (1, .ref 0), (0, .ref 4096)]) (st' := [.ref 55, .int r]) (h2 := (83, I1, R0 p)) rfl ?_
  refine TT_call (me' := mt_X9_undo) (as := [.ref 55]) (rest := [.int r]) (r1 := some (.int r)) (h1 := (83, I2, R0 p)) rfl rfl rfl (t_X9_undo h2) ?_
  refine TT_go 0 (pc' := 423) (lv' := [(3, .int (nI i)), (2, .ref 55), (1, .ref 0), (0, .ref 4096)]) (st' := [.int r, .int r]) (h2 := (83, I2, R0 p)) rfl ?_
  exact TT_ieq_t (t := 943) rfl rfl rfl k
/-- later: class and reference answer alike, and the invariant is kept -/
def op_later (Inv : Nat → IH → Prop) : Prop := ∀ (p : Nat) (I : IH) (a0 : Int32) (a1 : Int32), Inv p I → ∃ (n1 n2 : Nat) (r : Int32) (I1 I2 : IH), g_X8_later n1 p a0 a1 I = some (r, I1) ∧ g_X9_later n2 a0 a1 I1 = some (r, I2) ∧ Inv p I2
set_option maxRecDepth 20000 in
theorem law_later {L : Nat} {xs : Nat → Int32} {i p n1 n2 : Nat} {r : Int32} {I I1 I2 : IH} {h' : Hp} (hp : p = 5 ∨ p = 18) (hi : i + 6 ≤ L) (hL : L ≤ 3072) (h1 : g_X8_later n1 p (xs (i + 1)) (xs (i + 2)) I = some (r, I1)) (h2 : g_X9_later n2 (xs (i + 1)) (xs (i + 2)) I1 = some (r, I2)) (k : TT (some (L, xs)) mt_L 943 [(3, .int (nI i)), (2, .ref 55), (1, .ref 0), (0, .ref 4096)] [] (83, I2, R0 p) (some (.int 1)) h') : TT (some (L, xs)) mt_L 428 [(3, .int (nI i)), (2, .ref 55), (1, .ref 0), (0, .ref 4096)] [] (83, I, R0 p) (some (.int 1)) h' := by
  refine TT_go 5 (pc' := 433) (lv' := [(3, .int (nI i)), (2, .ref 55), (1, .ref 0), (0, .ref 4096)]) (st' := [.int (nI i + 1), .ref 4096, .ref 0]) (h2 := (83, I, R0 p)) rfl ?_
  refine TT_sld (a := i + 1) rfl (nI_add i 1) (by omega) hL ?_
  refine TT_go 0 (pc' := 434) (lv' := [(3, .int (nI i)), (2, .ref 55), (1, .ref 0), (0, .ref 4096)]) (st' := [.int (xs (i + 1)), .ref 0]) (h2 := (83, I, R0 p)) rfl ?_
  refine TT_go 4 (pc' := 438) (lv' := [(3, .int (nI i)), (2, .ref 55), (1, .ref 0), (0, .ref 4096)]) (st' := [.int (nI i + 2), .ref 4096, .int (xs (i + 1)), .ref 0]) (h2 := (83, I, R0 p)) rfl ?_
  refine TT_sld (a := i + 2) rfl (nI_add i 2) (by omega) hL ?_
  refine TT_go 0 (pc' := 439) (lv' := [(3, .int (nI i)), (2, .ref 55), (1, .ref 0), (0, .ref 4096)]) (st' := [.int (xs (i + 2)), .int (xs (i + 1)), .ref 0]) (h2 := (83, I, R0 p)) rfl ?_
  refine TT_call (me' := mt_X8_later) (as := [.ref 0, .int (xs (i + 1)), .int (xs (i + 2))]) (rest := []) (r1 := some (.int r)) (h1 := (83, I1, R0 p)) rfl rfl rfl (t_X8_later hp h1) ?_
  refine TT_go 0 (pc' := 442) (lv' := [(3, .int (nI i)), (2, .ref 55), (1, .ref 0), (0, .ref 4096)]) (st' := [.int r]) (h2 := (83, I1, R0 p)) rfl ?_
  refine TT_go 5 (pc' := 447) (lv' := [(3, .int (nI i)), (2, .ref 55), (1, .ref 0), (0, .ref 4096)]) (st' := [.int (nI i + 1), .ref 4096, .ref 55, .int r]) (h2 := (83, I1, R0 p)) rfl ?_
  refine TT_sld (a := i + 1) rfl (nI_add i 1) (by omega) hL ?_
  refine TT_go 0 (pc' := 448) (lv' := [(3, .int (nI i)), (2, .ref 55), (1, .ref 0), (0, .ref 4096)]) (st' := [.int (xs (i + 1)), .ref 55, .int r]) (h2 := (83, I1, R0 p)) rfl ?_
  refine TT_go 4 (pc' := 452) (lv' := [(3, .int (nI i)), (2, .ref 55), (1, .ref 0), (0, .ref 4096)]) (st' := [.int (nI i + 2), .ref 4096, .int (xs (i + 1)), .ref 55, .int r]) (h2 := (83, I1, R0 p)) rfl ?_
  refine TT_sld (a := i + 2) rfl (nI_add i 2) (by omega) hL ?_
  refine TT_go 0 (pc' := 453) (lv' := [(3, .int (nI i)), (2, .ref 55), (1, .ref 0), (0, .ref 4096)]) (st' := [.int (xs (i + 2)), .int (xs (i + 1)), .ref 55, .int r]) (h2 := (83, I1, R0 p)) rfl ?_
  refine TT_call (me' := mt_X9_later) (as := [.ref 55, .int (xs (i + 1)), .int (xs (i + 2))]) (rest := [.int r]) (r1 := some (.int r)) (h1 := (83, I2, R0 p)) rfl rfl rfl (t_X9_later h2) ?_
  refine TT_go 0 (pc' := 456) (lv' := [(3, .int (nI i)), (2, .ref 55), (1, .ref 0), (0, .ref 4096)]) (st' := [.int r, .int r]) (h2 := (83, I2, R0 p)) rfl ?_
  exact TT_ieq_t (t := 943) rfl rfl rfl k
/-- falls: class and reference answer alike, and the invariant is kept -/
def op_falls (Inv : Nat → IH → Prop) : Prop := ∀ (p : Nat) (I : IH) (a0 : Int32) (a1 : Int32) (a2 : Int32), Inv p I → ∃ (n1 n2 : Nat) (r : Int32) (I1 I2 : IH), g_X8_falls n1 p a0 a1 a2 I = some (r, I1) ∧ g_X9_falls n2 a0 a1 a2 I1 = some (r, I2) ∧ Inv p I2
set_option maxRecDepth 20000 in
theorem law_falls {L : Nat} {xs : Nat → Int32} {i p n1 n2 : Nat} {r : Int32} {I I1 I2 : IH} {h' : Hp} (hp : p = 5 ∨ p = 18) (hi : i + 6 ≤ L) (hL : L ≤ 3072) (h1 : g_X8_falls n1 p (xs (i + 1)) (xs (i + 2)) (xs (i + 3)) I = some (r, I1)) (h2 : g_X9_falls n2 (xs (i + 1)) (xs (i + 2)) (xs (i + 3)) I1 = some (r, I2)) (k : TT (some (L, xs)) mt_L 943 [(3, .int (nI i)), (2, .ref 55), (1, .ref 0), (0, .ref 4096)] [] (83, I2, R0 p) (some (.int 1)) h') : TT (some (L, xs)) mt_L 461 [(3, .int (nI i)), (2, .ref 55), (1, .ref 0), (0, .ref 4096)] [] (83, I, R0 p) (some (.int 1)) h' := by
  refine TT_go 5 (pc' := 466) (lv' := [(3, .int (nI i)), (2, .ref 55), (1, .ref 0), (0, .ref 4096)]) (st' := [.int (nI i + 1), .ref 4096, .ref 0]) (h2 := (83, I, R0 p)) rfl ?_
  refine TT_sld (a := i + 1) rfl (nI_add i 1) (by omega) hL ?_
  refine TT_go 0 (pc' := 467) (lv' := [(3, .int (nI i)), (2, .ref 55), (1, .ref 0), (0, .ref 4096)]) (st' := [.int (xs (i + 1)), .ref 0]) (h2 := (83, I, R0 p)) rfl ?_
  refine TT_go 4 (pc' := 471) (lv' := [(3, .int (nI i)), (2, .ref 55), (1, .ref 0), (0, .ref 4096)]) (st' := [.int (nI i + 2), .ref 4096, .int (xs (i + 1)), .ref 0]) (h2 := (83, I, R0 p)) rfl ?_
  refine TT_sld (a := i + 2) rfl (nI_add i 2) (by omega) hL ?_
  refine TT_go 0 (pc' := 472) (lv' := [(3, .int (nI i)), (2, .ref 55), (1, .ref 0), (0, .ref 4096)]) (st' := [.int (xs (i + 2)), .int (xs (i + 1)), .ref 0]) (h2 := (83, I, R0 p)) rfl ?_
  refine TT_go 4 (pc' := 476) (lv' := [(3, .int (nI i)), (2, .ref 55), (1, .ref 0), (0, .ref 4096)]) (st' := [.int (nI i + 3), .ref 4096, .int (xs (i + 2)), .int (xs (i + 1)), .ref 0]) (h2 := (83, I, R0 p)) rfl ?_
  refine TT_sld (a := i + 3) rfl (nI_add i 3) (by omega) hL ?_
  refine TT_go 0 (pc' := 477) (lv' := [(3, .int (nI i)), (2, .ref 55), (1, .ref 0), (0, .ref 4096)]) (st' := [.int (xs (i + 3)), .int (xs (i + 2)), .int (xs (i + 1)), .ref 0]) (h2 := (83, I, R0 p)) rfl ?_
  refine TT_call (me' := mt_X8_falls) (as := [.ref 0, .int (xs (i + 1)), .int (xs (i + 2)), .int (xs (i + 3))]) (rest := []) (r1 := some (.int r)) (h1 := (83, I1, R0 p)) rfl rfl rfl (t_X8_falls hp h1) ?_
  refine TT_go 0 (pc' := 480) (lv' := [(3, .int (nI i)), (2, .ref 55), (1, .ref 0), (0, .ref 4096)]) (st' := [.int r]) (h2 := (83, I1, R0 p)) rfl ?_
  refine TT_go 5 (pc' := 485) (lv' := [(3, .int (nI i)), (2, .ref 55), (1, .ref 0), (0, .ref 4096)]) (st' := [.int (nI i + 1), .ref 4096, .ref 55, .int r]) (h2 := (83, I1, R0 p)) rfl ?_
  refine TT_sld (a := i + 1) rfl (nI_add i 1) (by omega) hL ?_
  refine TT_go 0 (pc' := 486) (lv' := [(3, .int (nI i)), (2, .ref 55), (1, .ref 0), (0, .ref 4096)]) (st' := [.int (xs (i + 1)), .ref 55, .int r]) (h2 := (83, I1, R0 p)) rfl ?_
  refine TT_go 4 (pc' := 490) (lv' := [(3, .int (nI i)), (2, .ref 55), (1, .ref 0), (0, .ref 4096)]) (st' := [.int (nI i + 2), .ref 4096, .int (xs (i + 1)), .ref 55, .int r]) (h2 := (83, I1, R0 p)) rfl ?_
  refine TT_sld (a := i + 2) rfl (nI_add i 2) (by omega) hL ?_
  refine TT_go 0 (pc' := 491) (lv' := [(3, .int (nI i)), (2, .ref 55), (1, .ref 0), (0, .ref 4096)]) (st' := [.int (xs (i + 2)), .int (xs (i + 1)), .ref 55, .int r]) (h2 := (83, I1, R0 p)) rfl ?_
  refine TT_go 4 (pc' := 495) (lv' := [(3, .int (nI i)), (2, .ref 55), (1, .ref 0), (0, .ref 4096)]) (st' := [.int (nI i + 3), .ref 4096, .int (xs (i + 2)), .int (xs (i + 1)), .ref 55, .int r]) (h2 := (83, I1, R0 p)) rfl ?_
  refine TT_sld (a := i + 3) rfl (nI_add i 3) (by omega) hL ?_
  refine TT_go 0 (pc' := 496) (lv' := [(3, .int (nI i)), (2, .ref 55), (1, .ref 0), (0, .ref 4096)]) (st' := [.int (xs (i + 3)), .int (xs (i + 2)), .int (xs (i + 1)), .ref 55, .int r]) (h2 := (83, I1, R0 p)) rfl ?_
  refine TT_call (me' := mt_X9_falls) (as := [.ref 55, .int (xs (i + 1)), .int (xs (i + 2)), .int (xs (i + 3))]) (rest := [.int r]) (r1 := some (.int r)) (h1 := (83, I2, R0 p)) rfl rfl rfl (t_X9_falls h2) ?_
  refine TT_go 0 (pc' := 499) (lv' := [(3, .int (nI i)), (2, .ref 55), (1, .ref 0), (0, .ref 4096)]) (st' := [.int r, .int r]) (h2 := (83, I2, R0 p)) rfl ?_
  exact TT_ieq_t (t := 943) rfl rfl rfl k
/-- empty: class and reference answer alike, and the invariant is kept -/
def op_empty (Inv : Nat → IH → Prop) : Prop := ∀ (p : Nat) (I : IH) (a0 : Int32), Inv p I → ∃ (n1 n2 : Nat) (r : Int32) (I1 I2 : IH), g_X8_empty n1 p a0 I = some (r, I1) ∧ g_X9_empty n2 a0 I1 = some (r, I2) ∧ Inv p I2
set_option maxRecDepth 20000 in
theorem law_empty {L : Nat} {xs : Nat → Int32} {i p n1 n2 : Nat} {r : Int32} {I I1 I2 : IH} {h' : Hp} (hp : p = 5 ∨ p = 18) (hi : i + 6 ≤ L) (hL : L ≤ 3072) (h1 : g_X8_empty n1 p (xs (i + 1)) I = some (r, I1)) (h2 : g_X9_empty n2 (xs (i + 1)) I1 = some (r, I2)) (k : TT (some (L, xs)) mt_L 943 [(3, .int (nI i)), (2, .ref 55), (1, .ref 0), (0, .ref 4096)] [] (83, I2, R0 p) (some (.int 1)) h') : TT (some (L, xs)) mt_L 504 [(3, .int (nI i)), (2, .ref 55), (1, .ref 0), (0, .ref 4096)] [] (83, I, R0 p) (some (.int 1)) h' := by
  refine TT_go 5 (pc' := 509) (lv' := [(3, .int (nI i)), (2, .ref 55), (1, .ref 0), (0, .ref 4096)]) (st' := [.int (nI i + 1), .ref 4096, .ref 0]) (h2 := (83, I, R0 p)) rfl ?_
  refine TT_sld (a := i + 1) rfl (nI_add i 1) (by omega) hL ?_
  refine TT_go 0 (pc' := 510) (lv' := [(3, .int (nI i)), (2, .ref 55), (1, .ref 0), (0, .ref 4096)]) (st' := [.int (xs (i + 1)), .ref 0]) (h2 := (83, I, R0 p)) rfl ?_
  refine TT_call (me' := mt_X8_empty) (as := [.ref 0, .int (xs (i + 1))]) (rest := []) (r1 := some (.int r)) (h1 := (83, I1, R0 p)) rfl rfl rfl (t_X8_empty hp h1) ?_
  refine TT_go 0 (pc' := 513) (lv' := [(3, .int (nI i)), (2, .ref 55), (1, .ref 0), (0, .ref 4096)]) (st' := [.int r]) (h2 := (83, I1, R0 p)) rfl ?_
  refine TT_go 5 (pc' := 518) (lv' := [(3, .int (nI i)), (2, .ref 55), (1, .ref 0), (0, .ref 4096)]) (st' := [.int (nI i + 1), .ref 4096, .ref 55, .int r]) (h2 := (83, I1, R0 p)) rfl ?_
  refine TT_sld (a := i + 1) rfl (nI_add i 1) (by omega) hL ?_
  refine TT_go 0 (pc' := 519) (lv' := [(3, .int (nI i)), (2, .ref 55), (1, .ref 0), (0, .ref 4096)]) (st' := [.int (xs (i + 1)), .ref 55, .int r]) (h2 := (83, I1, R0 p)) rfl ?_
  refine TT_call (me' := mt_X9_empty) (as := [.ref 55, .int (xs (i + 1))]) (rest := [.int r]) (r1 := some (.int r)) (h1 := (83, I2, R0 p)) rfl rfl rfl (t_X9_empty h2) ?_
  refine TT_go 0 (pc' := 522) (lv' := [(3, .int (nI i)), (2, .ref 55), (1, .ref 0), (0, .ref 4096)]) (st' := [.int r, .int r]) (h2 := (83, I2, R0 p)) rfl ?_
  exact TT_ieq_t (t := 943) rfl rfl rfl k
/-- late: class and reference answer alike, and the invariant is kept -/
def op_late (Inv : Nat → IH → Prop) : Prop := ∀ (p : Nat) (I : IH) (a0 : Int32) (a1 : Int32) (a2 : Int32) (a3 : Int32), Inv p I → ∃ (n1 n2 : Nat) (r : Int32) (I1 I2 : IH), g_X8_late n1 p a0 a1 a2 a3 I = some (r, I1) ∧ g_X9_late n2 a0 a1 a2 a3 I1 = some (r, I2) ∧ Inv p I2
set_option maxRecDepth 20000 in
theorem law_late {L : Nat} {xs : Nat → Int32} {i p n1 n2 : Nat} {r : Int32} {I I1 I2 : IH} {h' : Hp} (hp : p = 5 ∨ p = 18) (hi : i + 6 ≤ L) (hL : L ≤ 3072) (h1 : g_X8_late n1 p (xs (i + 1)) (xs (i + 2)) (xs (i + 3)) (xs (i + 4)) I = some (r, I1)) (h2 : g_X9_late n2 (xs (i + 1)) (xs (i + 2)) (xs (i + 3)) (xs (i + 4)) I1 = some (r, I2)) (k : TT (some (L, xs)) mt_L 943 [(3, .int (nI i)), (2, .ref 55), (1, .ref 0), (0, .ref 4096)] [] (83, I2, R0 p) (some (.int 1)) h') : TT (some (L, xs)) mt_L 527 [(3, .int (nI i)), (2, .ref 55), (1, .ref 0), (0, .ref 4096)] [] (83, I, R0 p) (some (.int 1)) h' := by
  refine TT_go 5 (pc' := 532) (lv' := [(3, .int (nI i)), (2, .ref 55), (1, .ref 0), (0, .ref 4096)]) (st' := [.int (nI i + 1), .ref 4096, .ref 0]) (h2 := (83, I, R0 p)) rfl ?_
  refine TT_sld (a := i + 1) rfl (nI_add i 1) (by omega) hL ?_
  refine TT_go 0 (pc' := 533) (lv' := [(3, .int (nI i)), (2, .ref 55), (1, .ref 0), (0, .ref 4096)]) (st' := [.int (xs (i + 1)), .ref 0]) (h2 := (83, I, R0 p)) rfl ?_
  refine TT_go 4 (pc' := 537) (lv' := [(3, .int (nI i)), (2, .ref 55), (1, .ref 0), (0, .ref 4096)]) (st' := [.int (nI i + 2), .ref 4096, .int (xs (i + 1)), .ref 0]) (h2 := (83, I, R0 p)) rfl ?_
  refine TT_sld (a := i + 2) rfl (nI_add i 2) (by omega) hL ?_
  refine TT_go 0 (pc' := 538) (lv' := [(3, .int (nI i)), (2, .ref 55), (1, .ref 0), (0, .ref 4096)]) (st' := [.int (xs (i + 2)), .int (xs (i + 1)), .ref 0]) (h2 := (83, I, R0 p)) rfl ?_
  refine TT_go 4 (pc' := 542) (lv' := [(3, .int (nI i)), (2, .ref 55), (1, .ref 0), (0, .ref 4096)]) (st' := [.int (nI i + 3), .ref 4096, .int (xs (i + 2)), .int (xs (i + 1)), .ref 0]) (h2 := (83, I, R0 p)) rfl ?_
  refine TT_sld (a := i + 3) rfl (nI_add i 3) (by omega) hL ?_
  refine TT_go 0 (pc' := 543) (lv' := [(3, .int (nI i)), (2, .ref 55), (1, .ref 0), (0, .ref 4096)]) (st' := [.int (xs (i + 3)), .int (xs (i + 2)), .int (xs (i + 1)), .ref 0]) (h2 := (83, I, R0 p)) rfl ?_
  refine TT_go 4 (pc' := 547) (lv' := [(3, .int (nI i)), (2, .ref 55), (1, .ref 0), (0, .ref 4096)]) (st' := [.int (nI i + 4), .ref 4096, .int (xs (i + 3)), .int (xs (i + 2)), .int (xs (i + 1)), .ref 0]) (h2 := (83, I, R0 p)) rfl ?_
  refine TT_sld (a := i + 4) rfl (nI_add i 4) (by omega) hL ?_
  refine TT_go 0 (pc' := 548) (lv' := [(3, .int (nI i)), (2, .ref 55), (1, .ref 0), (0, .ref 4096)]) (st' := [.int (xs (i + 4)), .int (xs (i + 3)), .int (xs (i + 2)), .int (xs (i + 1)), .ref 0]) (h2 := (83, I, R0 p)) rfl ?_
  refine TT_call (me' := mt_X8_late) (as := [.ref 0, .int (xs (i + 1)), .int (xs (i + 2)), .int (xs (i + 3)), .int (xs (i + 4))]) (rest := []) (r1 := some (.int r)) (h1 := (83, I1, R0 p)) rfl rfl rfl (t_X8_late hp h1) ?_
  refine TT_go 0 (pc' := 551) (lv' := [(3, .int (nI i)), (2, .ref 55), (1, .ref 0), (0, .ref 4096)]) (st' := [.int r]) (h2 := (83, I1, R0 p)) rfl ?_
  refine TT_go 5 (pc' := 556) (lv' := [(3, .int (nI i)), (2, .ref 55), (1, .ref 0), (0, .ref 4096)]) (st' := [.int (nI i + 1), .ref 4096, .ref 55, .int r]) (h2 := (83, I1, R0 p)) rfl ?_
  refine TT_sld (a := i + 1) rfl (nI_add i 1) (by omega) hL ?_
  refine TT_go 0 (pc' := 557) (lv' := [(3, .int (nI i)), (2, .ref 55), (1, .ref 0), (0, .ref 4096)]) (st' := [.int (xs (i + 1)), .ref 55, .int r]) (h2 := (83, I1, R0 p)) rfl ?_
  refine TT_go 4 (pc' := 561) (lv' := [(3, .int (nI i)), (2, .ref 55), (1, .ref 0), (0, .ref 4096)]) (st' := [.int (nI i + 2), .ref 4096, .int (xs (i + 1)), .ref 55, .int r]) (h2 := (83, I1, R0 p)) rfl ?_
  refine TT_sld (a := i + 2) rfl (nI_add i 2) (by omega) hL ?_
  refine TT_go 0 (pc' := 562) (lv' := [(3, .int (nI i)), (2, .ref 55), (1, .ref 0), (0, .ref 4096)]) (st' := [.int (xs (i + 2)), .int (xs (i + 1)), .ref 55, .int r]) (h2 := (83, I1, R0 p)) rfl ?_
  refine TT_go 4 (pc' := 566) (lv' := [(3, .int (nI i)), (2, .ref 55), (1, .ref 0), (0, .ref 4096)]) (st' := [.int (nI i + 3), .ref 4096, .int (xs (i + 2)), .int (xs (i + 1)), .ref 55, .int r]) (h2 := (83, I1, R0 p)) rfl ?_
  refine TT_sld (a := i + 3) rfl (nI_add i 3) (by omega) hL ?_
  refine TT_go 0 (pc' := 567) (lv' := [(3, .int (nI i)), (2, .ref 55), (1, .ref 0), (0, .ref 4096)]) (st' := [.int (xs (i + 3)), .int (xs (i + 2)), .int (xs (i + 1)), .ref 55, .int r]) (h2 := (83, I1, R0 p)) rfl ?_
  refine TT_go 4 (pc' := 571) (lv' := [(3, .int (nI i)), (2, .ref 55), (1, .ref 0), (0, .ref 4096)]) (st' := [.int (nI i + 4), .ref 4096, .int (xs (i + 3)), .int (xs (i + 2)), .int (xs (i + 1)), .ref 55, .int r]) (h2 := (83, I1, R0 p)) rfl ?_
  refine TT_sld (a := i + 4) rfl (nI_add i 4) (by omega) hL ?_
  refine TT_go 0 (pc' := 572) (lv' := [(3, .int (nI i)), (2, .ref 55), (1, .ref 0), (0, .ref 4096)]) (st' := [.int (xs (i + 4)), .int (xs (i + 3)), .int (xs (i + 2)), .int (xs (i + 1)), .ref 55, .int r]) (h2 := (83, I1, R0 p)) rfl ?_
  refine TT_call (me' := mt_X9_late) (as := [.ref 55, .int (xs (i + 1)), .int (xs (i + 2)), .int (xs (i + 3)), .int (xs (i + 4))]) (rest := [.int r]) (r1 := some (.int r)) (h1 := (83, I2, R0 p)) rfl rfl rfl (t_X9_late h2) ?_
  refine TT_go 0 (pc' := 575) (lv' := [(3, .int (nI i)), (2, .ref 55), (1, .ref 0), (0, .ref 4096)]) (st' := [.int r, .int r]) (h2 := (83, I2, R0 p)) rfl ?_
  exact TT_ieq_t (t := 943) rfl rfl rfl k
/-- gains: class and reference answer alike, and the invariant is kept -/
def op_gains (Inv : Nat → IH → Prop) : Prop := ∀ (p : Nat) (I : IH) (a0 : Int32) (a1 : Int32) (a2 : Int32) (a3 : Int32), Inv p I → ∃ (n1 n2 : Nat) (r : Int32) (I1 I2 : IH), g_X8_gains n1 p a0 a1 a2 a3 I = some (r, I1) ∧ g_X9_gains n2 a0 a1 a2 a3 I1 = some (r, I2) ∧ Inv p I2
set_option maxRecDepth 20000 in
theorem law_gains {L : Nat} {xs : Nat → Int32} {i p n1 n2 : Nat} {r : Int32} {I I1 I2 : IH} {h' : Hp} (hp : p = 5 ∨ p = 18) (hi : i + 6 ≤ L) (hL : L ≤ 3072) (h1 : g_X8_gains n1 p (xs (i + 1)) (xs (i + 2)) (xs (i + 3)) (xs (i + 4)) I = some (r, I1)) (h2 : g_X9_gains n2 (xs (i + 1)) (xs (i + 2)) (xs (i + 3)) (xs (i + 4)) I1 = some (r, I2)) (k : TT (some (L, xs)) mt_L 943 [(3, .int (nI i)), (2, .ref 55), (1, .ref 0), (0, .ref 4096)] [] (83, I2, R0 p) (some (.int 1)) h') : TT (some (L, xs)) mt_L 580 [(3, .int (nI i)), (2, .ref 55), (1, .ref 0), (0, .ref 4096)] [] (83, I, R0 p) (some (.int 1)) h' := by
  refine TT_go 5 (pc' := 585) (lv' := [(3, .int (nI i)), (2, .ref 55), (1, .ref 0), (0, .ref 4096)]) (st' := [.int (nI i + 1), .ref 4096, .ref 0]) (h2 := (83, I, R0 p)) rfl ?_
  refine TT_sld (a := i + 1) rfl (nI_add i 1) (by omega) hL ?_
  refine TT_go 0 (pc' := 586) (lv' := [(3, .int (nI i)), (2, .ref 55), (1, .ref 0), (0, .ref 4096)]) (st' := [.int (xs (i + 1)), .ref 0]) (h2 := (83, I, R0 p)) rfl ?_
  refine TT_go 4 (pc' := 590) (lv' := [(3, .int (nI i)), (2, .ref 55), (1, .ref 0), (0, .ref 4096)]) (st' := [.int (nI i + 2), .ref 4096, .int (xs (i + 1)), .ref 0]) (h2 := (83, I, R0 p)) rfl ?_
  refine TT_sld (a := i + 2) rfl (nI_add i 2) (by omega) hL ?_
  refine TT_go 0 (pc' := 591) (lv' := [(3, .int (nI i)), (2, .ref 55), (1, .ref 0), (0, .ref 4096)]) (st' := [.int (xs (i + 2)), .int (xs (i + 1)), .ref 0]) (h2 := (83, I, R0 p)) rfl ?_
  refine TT_go 4 (pc' := 595) (lv' := [(3, .int (nI i)), (2, .ref 55), (1, .ref 0), (0, .ref 4096)]) (st' := [.int (nI i + 3), .ref 4096, .int (xs (i + 2)), .int (xs (i + 1)), .ref 0]) (h2 := (83, I, R0 p)) rfl ?_
  refine TT_sld (a := i + 3) rfl (nI_add i 3) (by omega) hL ?_
  refine TT_go 0 (pc' := 596) (lv' := [(3, .int (nI i)), (2, .ref 55), (1, .ref 0), (0, .ref 4096)]) (st' := [.int (xs (i + 3)), .int (xs (i + 2)), .int (xs (i + 1)), .ref 0]) (h2 := (83, I, R0 p)) rfl ?_
  refine TT_go 4 (pc' := 600) (lv' := [(3, .int (nI i)), (2, .ref 55), (1, .ref 0), (0, .ref 4096)]) (st' := [.int (nI i + 4), .ref 4096, .int (xs (i + 3)), .int (xs (i + 2)), .int (xs (i + 1)), .ref 0]) (h2 := (83, I, R0 p)) rfl ?_
  refine TT_sld (a := i + 4) rfl (nI_add i 4) (by omega) hL ?_
  refine TT_go 0 (pc' := 601) (lv' := [(3, .int (nI i)), (2, .ref 55), (1, .ref 0), (0, .ref 4096)]) (st' := [.int (xs (i + 4)), .int (xs (i + 3)), .int (xs (i + 2)), .int (xs (i + 1)), .ref 0]) (h2 := (83, I, R0 p)) rfl ?_
  refine TT_call (me' := mt_X8_gains) (as := [.ref 0, .int (xs (i + 1)), .int (xs (i + 2)), .int (xs (i + 3)), .int (xs (i + 4))]) (rest := []) (r1 := some (.int r)) (h1 := (83, I1, R0 p)) rfl rfl rfl (t_X8_gains hp h1) ?_
  refine TT_go 0 (pc' := 604) (lv' := [(3, .int (nI i)), (2, .ref 55), (1, .ref 0), (0, .ref 4096)]) (st' := [.int r]) (h2 := (83, I1, R0 p)) rfl ?_
  refine TT_go 5 (pc' := 609) (lv' := [(3, .int (nI i)), (2, .ref 55), (1, .ref 0), (0, .ref 4096)]) (st' := [.int (nI i + 1), .ref 4096, .ref 55, .int r]) (h2 := (83, I1, R0 p)) rfl ?_
  refine TT_sld (a := i + 1) rfl (nI_add i 1) (by omega) hL ?_
  refine TT_go 0 (pc' := 610) (lv' := [(3, .int (nI i)), (2, .ref 55), (1, .ref 0), (0, .ref 4096)]) (st' := [.int (xs (i + 1)), .ref 55, .int r]) (h2 := (83, I1, R0 p)) rfl ?_
  refine TT_go 4 (pc' := 614) (lv' := [(3, .int (nI i)), (2, .ref 55), (1, .ref 0), (0, .ref 4096)]) (st' := [.int (nI i + 2), .ref 4096, .int (xs (i + 1)), .ref 55, .int r]) (h2 := (83, I1, R0 p)) rfl ?_
  refine TT_sld (a := i + 2) rfl (nI_add i 2) (by omega) hL ?_
  refine TT_go 0 (pc' := 615) (lv' := [(3, .int (nI i)), (2, .ref 55), (1, .ref 0), (0, .ref 4096)]) (st' := [.int (xs (i + 2)), .int (xs (i + 1)), .ref 55, .int r]) (h2 := (83, I1, R0 p)) rfl ?_
  refine TT_go 4 (pc' := 619) (lv' := [(3, .int (nI i)), (2, .ref 55), (1, .ref 0), (0, .ref 4096)]) (st' := [.int (nI i + 3), .ref 4096, .int (xs (i + 2)), .int (xs (i + 1)), .ref 55, .int r]) (h2 := (83, I1, R0 p)) rfl ?_
  refine TT_sld (a := i + 3) rfl (nI_add i 3) (by omega) hL ?_
  refine TT_go 0 (pc' := 620) (lv' := [(3, .int (nI i)), (2, .ref 55), (1, .ref 0), (0, .ref 4096)]) (st' := [.int (xs (i + 3)), .int (xs (i + 2)), .int (xs (i + 1)), .ref 55, .int r]) (h2 := (83, I1, R0 p)) rfl ?_
  refine TT_go 4 (pc' := 624) (lv' := [(3, .int (nI i)), (2, .ref 55), (1, .ref 0), (0, .ref 4096)]) (st' := [.int (nI i + 4), .ref 4096, .int (xs (i + 3)), .int (xs (i + 2)), .int (xs (i + 1)), .ref 55, .int r]) (h2 := (83, I1, R0 p)) rfl ?_
  refine TT_sld (a := i + 4) rfl (nI_add i 4) (by omega) hL ?_
  refine TT_go 0 (pc' := 625) (lv' := [(3, .int (nI i)), (2, .ref 55), (1, .ref 0), (0, .ref 4096)]) (st' := [.int (xs (i + 4)), .int (xs (i + 3)), .int (xs (i + 2)), .int (xs (i + 1)), .ref 55, .int r]) (h2 := (83, I1, R0 p)) rfl ?_
  refine TT_call (me' := mt_X9_gains) (as := [.ref 55, .int (xs (i + 1)), .int (xs (i + 2)), .int (xs (i + 3)), .int (xs (i + 4))]) (rest := [.int r]) (r1 := some (.int r)) (h1 := (83, I2, R0 p)) rfl rfl rfl (t_X9_gains h2) ?_
  refine TT_go 0 (pc' := 628) (lv' := [(3, .int (nI i)), (2, .ref 55), (1, .ref 0), (0, .ref 4096)]) (st' := [.int r, .int r]) (h2 := (83, I2, R0 p)) rfl ?_
  exact TT_ieq_t (t := 943) rfl rfl rfl k
/-- run: class and reference answer alike, and the invariant is kept -/
def op_run (Inv : Nat → IH → Prop) : Prop := ∀ (p : Nat) (I : IH) (a0 : Int32), Inv p I → ∃ (n1 n2 : Nat) (r : Int32) (I1 I2 : IH), g_X8_run n1 p a0 I = some (r, I1) ∧ g_X9_run n2 a0 I1 = some (r, I2) ∧ Inv p I2
set_option maxRecDepth 20000 in
theorem law_run {L : Nat} {xs : Nat → Int32} {i p n1 n2 : Nat} {r : Int32} {I I1 I2 : IH} {h' : Hp} (hp : p = 5 ∨ p = 18) (hi : i + 6 ≤ L) (hL : L ≤ 3072) (h1 : g_X8_run n1 p (xs (i + 1)) I = some (r, I1)) (h2 : g_X9_run n2 (xs (i + 1)) I1 = some (r, I2)) (k : TT (some (L, xs)) mt_L 943 [(3, .int (nI i)), (2, .ref 55), (1, .ref 0), (0, .ref 4096)] [] (83, I2, R0 p) (some (.int 1)) h') : TT (some (L, xs)) mt_L 633 [(3, .int (nI i)), (2, .ref 55), (1, .ref 0), (0, .ref 4096)] [] (83, I, R0 p) (some (.int 1)) h' := by
  refine TT_go 5 (pc' := 638) (lv' := [(3, .int (nI i)), (2, .ref 55), (1, .ref 0), (0, .ref 4096)]) (st' := [.int (nI i + 1), .ref 4096, .ref 0]) (h2 := (83, I, R0 p)) rfl ?_
  refine TT_sld (a := i + 1) rfl (nI_add i 1) (by omega) hL ?_
  refine TT_go 0 (pc' := 639) (lv' := [(3, .int (nI i)), (2, .ref 55), (1, .ref 0), (0, .ref 4096)]) (st' := [.int (xs (i + 1)), .ref 0]) (h2 := (83, I, R0 p)) rfl ?_
  refine TT_call (me' := mt_X8_run) (as := [.ref 0, .int (xs (i + 1))]) (rest := []) (r1 := some (.int r)) (h1 := (83, I1, R0 p)) rfl rfl rfl (t_X8_run hp h1) ?_
  refine TT_go 0 (pc' := 642) (lv' := [(3, .int (nI i)), (2, .ref 55), (1, .ref 0), (0, .ref 4096)]) (st' := [.int r]) (h2 := (83, I1, R0 p)) rfl ?_
  refine TT_go 5 (pc' := 647) (lv' := [(3, .int (nI i)), (2, .ref 55), (1, .ref 0), (0, .ref 4096)]) (st' := [.int (nI i + 1), .ref 4096, .ref 55, .int r]) (h2 := (83, I1, R0 p)) rfl ?_
  refine TT_sld (a := i + 1) rfl (nI_add i 1) (by omega) hL ?_
  refine TT_go 0 (pc' := 648) (lv' := [(3, .int (nI i)), (2, .ref 55), (1, .ref 0), (0, .ref 4096)]) (st' := [.int (xs (i + 1)), .ref 55, .int r]) (h2 := (83, I1, R0 p)) rfl ?_
  refine TT_call (me' := mt_X9_run) (as := [.ref 55, .int (xs (i + 1))]) (rest := [.int r]) (r1 := some (.int r)) (h1 := (83, I2, R0 p)) rfl rfl rfl (t_X9_run h2) ?_
  refine TT_go 0 (pc' := 651) (lv' := [(3, .int (nI i)), (2, .ref 55), (1, .ref 0), (0, .ref 4096)]) (st' := [.int r, .int r]) (h2 := (83, I2, R0 p)) rfl ?_
  exact TT_ieq_t (t := 943) rfl rfl rfl k
/-- round: class and reference answer alike, and the invariant is kept -/
def op_round (Inv : Nat → IH → Prop) : Prop := ∀ (p : Nat) (I : IH) (a0 : Int32) (a1 : Int32) (a2 : Int32), Inv p I → ∃ (n1 n2 : Nat) (r : Int32) (I1 I2 : IH), g_X8_round n1 p a0 a1 a2 I = some (r, I1) ∧ g_X9_round n2 a0 a1 a2 I1 = some (r, I2) ∧ Inv p I2
set_option maxRecDepth 20000 in
theorem law_round {L : Nat} {xs : Nat → Int32} {i p n1 n2 : Nat} {r : Int32} {I I1 I2 : IH} {h' : Hp} (hp : p = 5 ∨ p = 18) (hi : i + 6 ≤ L) (hL : L ≤ 3072) (h1 : g_X8_round n1 p (xs (i + 1)) (xs (i + 2)) (xs (i + 3)) I = some (r, I1)) (h2 : g_X9_round n2 (xs (i + 1)) (xs (i + 2)) (xs (i + 3)) I1 = some (r, I2)) (k : TT (some (L, xs)) mt_L 943 [(3, .int (nI i)), (2, .ref 55), (1, .ref 0), (0, .ref 4096)] [] (83, I2, R0 p) (some (.int 1)) h') : TT (some (L, xs)) mt_L 656 [(3, .int (nI i)), (2, .ref 55), (1, .ref 0), (0, .ref 4096)] [] (83, I, R0 p) (some (.int 1)) h' := by
  refine TT_go 5 (pc' := 661) (lv' := [(3, .int (nI i)), (2, .ref 55), (1, .ref 0), (0, .ref 4096)]) (st' := [.int (nI i + 1), .ref 4096, .ref 0]) (h2 := (83, I, R0 p)) rfl ?_
  refine TT_sld (a := i + 1) rfl (nI_add i 1) (by omega) hL ?_
  refine TT_go 0 (pc' := 662) (lv' := [(3, .int (nI i)), (2, .ref 55), (1, .ref 0), (0, .ref 4096)]) (st' := [.int (xs (i + 1)), .ref 0]) (h2 := (83, I, R0 p)) rfl ?_
  refine TT_go 4 (pc' := 666) (lv' := [(3, .int (nI i)), (2, .ref 55), (1, .ref 0), (0, .ref 4096)]) (st' := [.int (nI i + 2), .ref 4096, .int (xs (i + 1)), .ref 0]) (h2 := (83, I, R0 p)) rfl ?_
  refine TT_sld (a := i + 2) rfl (nI_add i 2) (by omega) hL ?_
  refine TT_go 0 (pc' := 667) (lv' := [(3, .int (nI i)), (2, .ref 55), (1, .ref 0), (0, .ref 4096)]) (st' := [.int (xs (i + 2)), .int (xs (i + 1)), .ref 0]) (h2 := (83, I, R0 p)) rfl ?_
  refine TT_go 4 (pc' := 671) (lv' := [(3, .int (nI i)), (2, .ref 55), (1, .ref 0), (0, .ref 4096)]) (st' := [.int (nI i + 3), .ref 4096, .int (xs (i + 2)), .int (xs (i + 1)), .ref 0]) (h2 := (83, I, R0 p)) rfl ?_
  refine TT_sld (a := i + 3) rfl (nI_add i 3) (by omega) hL ?_
  refine TT_go 0 (pc' := 672) (lv' := [(3, .int (nI i)), (2, .ref 55), (1, .ref 0), (0, .ref 4096)]) (st' := [.int (xs (i + 3)), .int (xs (i + 2)), .int (xs (i + 1)), .ref 0]) (h2 := (83, I, R0 p)) rfl ?_
  refine TT_call (me' := mt_X8_round) (as := [.ref 0, .int (xs (i + 1)), .int (xs (i + 2)), .int (xs (i + 3))]) (rest := []) (r1 := some (.int r)) (h1 := (83, I1, R0 p)) rfl rfl rfl (t_X8_round hp h1) ?_
  refine TT_go 0 (pc' := 675) (lv' := [(3, .int (nI i)), (2, .ref 55), (1, .ref 0), (0, .ref 4096)]) (st' := [.int r]) (h2 := (83, I1, R0 p)) rfl ?_
  refine TT_go 5 (pc' := 680) (lv' := [(3, .int (nI i)), (2, .ref 55), (1, .ref 0), (0, .ref 4096)]) (st' := [.int (nI i + 1), .ref 4096, .ref 55, .int r]) (h2 := (83, I1, R0 p)) rfl ?_
  refine TT_sld (a := i + 1) rfl (nI_add i 1) (by omega) hL ?_
  refine TT_go 0 (pc' := 681) (lv' := [(3, .int (nI i)), (2, .ref 55), (1, .ref 0), (0, .ref 4096)]) (st' := [.int (xs (i + 1)), .ref 55, .int r]) (h2 := (83, I1, R0 p)) rfl ?_
  refine TT_go 4 (pc' := 685) (lv' := [(3, .int (nI i)), (2, .ref 55), (1, .ref 0), (0, .ref 4096)]) (st' := [.int (nI i + 2), .ref 4096, .int (xs (i + 1)), .ref 55, .int r]) (h2 := (83, I1, R0 p)) rfl ?_
  refine TT_sld (a := i + 2) rfl (nI_add i 2) (by omega) hL ?_
  refine TT_go 0 (pc' := 686) (lv' := [(3, .int (nI i)), (2, .ref 55), (1, .ref 0), (0, .ref 4096)]) (st' := [.int (xs (i + 2)), .int (xs (i + 1)), .ref 55, .int r]) (h2 := (83, I1, R0 p)) rfl ?_
  refine TT_go 4 (pc' := 690) (lv' := [(3, .int (nI i)), (2, .ref 55), (1, .ref 0), (0, .ref 4096)]) (st' := [.int (nI i + 3), .ref 4096, .int (xs (i + 2)), .int (xs (i + 1)), .ref 55, .int r]) (h2 := (83, I1, R0 p)) rfl ?_
  refine TT_sld (a := i + 3) rfl (nI_add i 3) (by omega) hL ?_
  refine TT_go 0 (pc' := 691) (lv' := [(3, .int (nI i)), (2, .ref 55), (1, .ref 0), (0, .ref 4096)]) (st' := [.int (xs (i + 3)), .int (xs (i + 2)), .int (xs (i + 1)), .ref 55, .int r]) (h2 := (83, I1, R0 p)) rfl ?_
  refine TT_call (me' := mt_X9_round) (as := [.ref 55, .int (xs (i + 1)), .int (xs (i + 2)), .int (xs (i + 3))]) (rest := [.int r]) (r1 := some (.int r)) (h1 := (83, I2, R0 p)) rfl rfl rfl (t_X9_round h2) ?_
  refine TT_go 0 (pc' := 694) (lv' := [(3, .int (nI i)), (2, .ref 55), (1, .ref 0), (0, .ref 4096)]) (st' := [.int r, .int r]) (h2 := (83, I2, R0 p)) rfl ?_
  exact TT_ieq_t (t := 943) rfl rfl rfl k
/-- counted: class and reference answer alike, and the invariant is kept -/
def op_counted (Inv : Nat → IH → Prop) : Prop := ∀ (p : Nat) (I : IH) (a0 : Int32) (a1 : Int32) (a2 : Int32), Inv p I → ∃ (n1 n2 : Nat) (r : Int32) (I1 I2 : IH), g_X8_counted n1 p a0 a1 a2 I = some (r, I1) ∧ g_X9_counted n2 a0 a1 a2 I1 = some (r, I2) ∧ Inv p I2
set_option maxRecDepth 20000 in
theorem law_counted {L : Nat} {xs : Nat → Int32} {i p n1 n2 : Nat} {r : Int32} {I I1 I2 : IH} {h' : Hp} (hp : p = 5 ∨ p = 18) (hi : i + 6 ≤ L) (hL : L ≤ 3072) (h1 : g_X8_counted n1 p (xs (i + 1)) (xs (i + 2)) (xs (i + 3)) I = some (r, I1)) (h2 : g_X9_counted n2 (xs (i + 1)) (xs (i + 2)) (xs (i + 3)) I1 = some (r, I2)) (k : TT (some (L, xs)) mt_L 943 [(3, .int (nI i)), (2, .ref 55), (1, .ref 0), (0, .ref 4096)] [] (83, I2, R0 p) (some (.int 1)) h') : TT (some (L, xs)) mt_L 699 [(3, .int (nI i)), (2, .ref 55), (1, .ref 0), (0, .ref 4096)] [] (83, I, R0 p) (some (.int 1)) h' := by
  refine TT_go 5 (pc' := 704) (lv' := [(3, .int (nI i)), (2, .ref 55), (1, .ref 0), (0, .ref 4096)]) (st' := [.int (nI i + 1), .ref 4096, .ref 0]) (h2 := (83, I, R0 p)) rfl ?_
  refine TT_sld (a := i + 1) rfl (nI_add i 1) (by omega) hL ?_
  refine TT_go 0 (pc' := 705) (lv' := [(3, .int (nI i)), (2, .ref 55), (1, .ref 0), (0, .ref 4096)]) (st' := [.int (xs (i + 1)), .ref 0]) (h2 := (83, I, R0 p)) rfl ?_
  refine TT_go 4 (pc' := 709) (lv' := [(3, .int (nI i)), (2, .ref 55), (1, .ref 0), (0, .ref 4096)]) (st' := [.int (nI i + 2), .ref 4096, .int (xs (i + 1)), .ref 0]) (h2 := (83, I, R0 p)) rfl ?_
  refine TT_sld (a := i + 2) rfl (nI_add i 2) (by omega) hL ?_
  refine TT_go 0 (pc' := 710) (lv' := [(3, .int (nI i)), (2, .ref 55), (1, .ref 0), (0, .ref 4096)]) (st' := [.int (xs (i + 2)), .int (xs (i + 1)), .ref 0]) (h2 := (83, I, R0 p)) rfl ?_
  refine TT_go 4 (pc' := 714) (lv' := [(3, .int (nI i)), (2, .ref 55), (1, .ref 0), (0, .ref 4096)]) (st' := [.int (nI i + 3), .ref 4096, .int (xs (i + 2)), .int (xs (i + 1)), .ref 0]) (h2 := (83, I, R0 p)) rfl ?_
  refine TT_sld (a := i + 3) rfl (nI_add i 3) (by omega) hL ?_
  refine TT_go 0 (pc' := 715) (lv' := [(3, .int (nI i)), (2, .ref 55), (1, .ref 0), (0, .ref 4096)]) (st' := [.int (xs (i + 3)), .int (xs (i + 2)), .int (xs (i + 1)), .ref 0]) (h2 := (83, I, R0 p)) rfl ?_
  refine TT_call (me' := mt_X8_counted) (as := [.ref 0, .int (xs (i + 1)), .int (xs (i + 2)), .int (xs (i + 3))]) (rest := []) (r1 := some (.int r)) (h1 := (83, I1, R0 p)) rfl rfl rfl (t_X8_counted hp h1) ?_
  refine TT_go 0 (pc' := 718) (lv' := [(3, .int (nI i)), (2, .ref 55), (1, .ref 0), (0, .ref 4096)]) (st' := [.int r]) (h2 := (83, I1, R0 p)) rfl ?_
  refine TT_go 5 (pc' := 723) (lv' := [(3, .int (nI i)), (2, .ref 55), (1, .ref 0), (0, .ref 4096)]) (st' := [.int (nI i + 1), .ref 4096, .ref 55, .int r]) (h2 := (83, I1, R0 p)) rfl ?_
  refine TT_sld (a := i + 1) rfl (nI_add i 1) (by omega) hL ?_
  refine TT_go 0 (pc' := 724) (lv' := [(3, .int (nI i)), (2, .ref 55), (1, .ref 0), (0, .ref 4096)]) (st' := [.int (xs (i + 1)), .ref 55, .int r]) (h2 := (83, I1, R0 p)) rfl ?_
  refine TT_go 4 (pc' := 728) (lv' := [(3, .int (nI i)), (2, .ref 55), (1, .ref 0), (0, .ref 4096)]) (st' := [.int (nI i + 2), .ref 4096, .int (xs (i + 1)), .ref 55, .int r]) (h2 := (83, I1, R0 p)) rfl ?_
  refine TT_sld (a := i + 2) rfl (nI_add i 2) (by omega) hL ?_
  refine TT_go 0 (pc' := 729) (lv' := [(3, .int (nI i)), (2, .ref 55), (1, .ref 0), (0, .ref 4096)]) (st' := [.int (xs (i + 2)), .int (xs (i + 1)), .ref 55, .int r]) (h2 := (83, I1, R0 p)) rfl ?_
  refine TT_go 4 (pc' := 733) (lv' := [(3, .int (nI i)), (2, .ref 55), (1, .ref 0), (0, .ref 4096)]) (st' := [.int (nI i + 3), .ref 4096, .int (xs (i + 2)), .int (xs (i + 1)), .ref 55, .int r]) (h2 := (83, I1, R0 p)) rfl ?_
  refine TT_sld (a := i + 3) rfl (nI_add i 3) (by omega) hL ?_
  refine TT_go 0 (pc' := 734) (lv' := [(3, .int (nI i)), (2, .ref 55), (1, .ref 0), (0, .ref 4096)]) (st' := [.int (xs (i + 3)), .int (xs (i + 2)), .int (xs (i + 1)), .ref 55, .int r]) (h2 := (83, I1, R0 p)) rfl ?_
  refine TT_call (me' := mt_X9_counted) (as := [.ref 55, .int (xs (i + 1)), .int (xs (i + 2)), .int (xs (i + 3))]) (rest := [.int r]) (r1 := some (.int r)) (h1 := (83, I2, R0 p)) rfl rfl rfl (t_X9_counted h2) ?_
  refine TT_go 0 (pc' := 737) (lv' := [(3, .int (nI i)), (2, .ref 55), (1, .ref 0), (0, .ref 4096)]) (st' := [.int r, .int r]) (h2 := (83, I2, R0 p)) rfl ?_
  exact TT_ieq_t (t := 943) rfl rfl rfl k
/-- stolen: class and reference answer alike, and the invariant is kept -/
def op_stolen (Inv : Nat → IH → Prop) : Prop := ∀ (p : Nat) (I : IH) (a0 : Int32) (a1 : Int32), Inv p I → ∃ (n1 n2 : Nat) (r : Int32) (I1 I2 : IH), g_X8_stolen n1 p a0 a1 I = some (r, I1) ∧ g_X9_stolen n2 a0 a1 I1 = some (r, I2) ∧ Inv p I2
set_option maxRecDepth 20000 in
theorem law_stolen {L : Nat} {xs : Nat → Int32} {i p n1 n2 : Nat} {r : Int32} {I I1 I2 : IH} {h' : Hp} (hp : p = 5 ∨ p = 18) (hi : i + 6 ≤ L) (hL : L ≤ 3072) (h1 : g_X8_stolen n1 p (xs (i + 1)) (xs (i + 2)) I = some (r, I1)) (h2 : g_X9_stolen n2 (xs (i + 1)) (xs (i + 2)) I1 = some (r, I2)) (k : TT (some (L, xs)) mt_L 943 [(3, .int (nI i)), (2, .ref 55), (1, .ref 0), (0, .ref 4096)] [] (83, I2, R0 p) (some (.int 1)) h') : TT (some (L, xs)) mt_L 742 [(3, .int (nI i)), (2, .ref 55), (1, .ref 0), (0, .ref 4096)] [] (83, I, R0 p) (some (.int 1)) h' := by
  refine TT_go 5 (pc' := 747) (lv' := [(3, .int (nI i)), (2, .ref 55), (1, .ref 0), (0, .ref 4096)]) (st' := [.int (nI i + 1), .ref 4096, .ref 0]) (h2 := (83, I, R0 p)) rfl ?_
  refine TT_sld (a := i + 1) rfl (nI_add i 1) (by omega) hL ?_
  refine TT_go 0 (pc' := 748) (lv' := [(3, .int (nI i)), (2, .ref 55), (1, .ref 0), (0, .ref 4096)]) (st' := [.int (xs (i + 1)), .ref 0]) (h2 := (83, I, R0 p)) rfl ?_
  refine TT_go 4 (pc' := 752) (lv' := [(3, .int (nI i)), (2, .ref 55), (1, .ref 0), (0, .ref 4096)]) (st' := [.int (nI i + 2), .ref 4096, .int (xs (i + 1)), .ref 0]) (h2 := (83, I, R0 p)) rfl ?_
  refine TT_sld (a := i + 2) rfl (nI_add i 2) (by omega) hL ?_
  refine TT_go 0 (pc' := 753) (lv' := [(3, .int (nI i)), (2, .ref 55), (1, .ref 0), (0, .ref 4096)]) (st' := [.int (xs (i + 2)), .int (xs (i + 1)), .ref 0]) (h2 := (83, I, R0 p)) rfl ?_
  refine TT_call (me' := mt_X8_stolen) (as := [.ref 0, .int (xs (i + 1)), .int (xs (i + 2))]) (rest := []) (r1 := some (.int r)) (h1 := (83, I1, R0 p)) rfl rfl rfl (t_X8_stolen hp h1) ?_
  refine TT_go 0 (pc' := 756) (lv' := [(3, .int (nI i)), (2, .ref 55), (1, .ref 0), (0, .ref 4096)]) (st' := [.int r]) (h2 := (83, I1, R0 p)) rfl ?_
  refine TT_go 5 (pc' := 761) (lv' := [(3, .int (nI i)), (2, .ref 55), (1, .ref 0), (0, .ref 4096)]) (st' := [.int (nI i + 1), .ref 4096, .ref 55, .int r]) (h2 := (83, I1, R0 p)) rfl ?_
  refine TT_sld (a := i + 1) rfl (nI_add i 1) (by omega) hL ?_
  refine TT_go 0 (pc' := 762) (lv' := [(3, .int (nI i)), (2, .ref 55), (1, .ref 0), (0, .ref 4096)]) (st' := [.int (xs (i + 1)), .ref 55, .int r]) (h2 := (83, I1, R0 p)) rfl ?_
  refine TT_go 4 (pc' := 766) (lv' := [(3, .int (nI i)), (2, .ref 55), (1, .ref 0), (0, .ref 4096)]) (st' := [.int (nI i + 2), .ref 4096, .int (xs (i + 1)), .ref 55, .int r]) (h2 := (83, I1, R0 p)) rfl ?_
  refine TT_sld (a := i + 2) rfl (nI_add i 2) (by omega) hL ?_
  refine TT_go 0 (pc' := 767) (lv' := [(3, .int (nI i)), (2, .ref 55), (1, .ref 0), (0, .ref 4096)]) (st' := [.int (xs (i + 2)), .int (xs (i + 1)), .ref 55, .int r]) (h2 := (83, I1, R0 p)) rfl ?_
  refine TT_call (me' := mt_X9_stolen) (as := [.ref 55, .int (xs (i + 1)), .int (xs (i + 2))]) (rest := [.int r]) (r1 := some (.int r)) (h1 := (83, I2, R0 p)) rfl rfl rfl (t_X9_stolen h2) ?_
  refine TT_go 0 (pc' := 770) (lv' := [(3, .int (nI i)), (2, .ref 55), (1, .ref 0), (0, .ref 4096)]) (st' := [.int r, .int r]) (h2 := (83, I2, R0 p)) rfl ?_
  exact TT_ieq_t (t := 943) rfl rfl rfl k
/-- split: class and reference answer alike, and the invariant is kept -/
def op_split (Inv : Nat → IH → Prop) : Prop := ∀ (p : Nat) (I : IH) (a0 : Int32) (a1 : Int32), Inv p I → ∃ (n1 n2 : Nat) (r : Int32) (I1 I2 : IH), g_X8_split n1 p a0 a1 I = some (r, I1) ∧ g_X9_split n2 a0 a1 I1 = some (r, I2) ∧ Inv p I2
set_option maxRecDepth 20000 in
theorem law_split {L : Nat} {xs : Nat → Int32} {i p n1 n2 : Nat} {r : Int32} {I I1 I2 : IH} {h' : Hp} (hp : p = 5 ∨ p = 18) (hi : i + 6 ≤ L) (hL : L ≤ 3072) (h1 : g_X8_split n1 p (xs (i + 1)) (xs (i + 2)) I = some (r, I1)) (h2 : g_X9_split n2 (xs (i + 1)) (xs (i + 2)) I1 = some (r, I2)) (k : TT (some (L, xs)) mt_L 943 [(3, .int (nI i)), (2, .ref 55), (1, .ref 0), (0, .ref 4096)] [] (83, I2, R0 p) (some (.int 1)) h') : TT (some (L, xs)) mt_L 775 [(3, .int (nI i)), (2, .ref 55), (1, .ref 0), (0, .ref 4096)] [] (83, I, R0 p) (some (.int 1)) h' := by
  refine TT_go 5 (pc' := 780) (lv' := [(3, .int (nI i)), (2, .ref 55), (1, .ref 0), (0, .ref 4096)]) (st' := [.int (nI i + 1), .ref 4096, .ref 0]) (h2 := (83, I, R0 p)) rfl ?_
  refine TT_sld (a := i + 1) rfl (nI_add i 1) (by omega) hL ?_
  refine TT_go 0 (pc' := 781) (lv' := [(3, .int (nI i)), (2, .ref 55), (1, .ref 0), (0, .ref 4096)]) (st' := [.int (xs (i + 1)), .ref 0]) (h2 := (83, I, R0 p)) rfl ?_
  refine TT_go 4 (pc' := 785) (lv' := [(3, .int (nI i)), (2, .ref 55), (1, .ref 0), (0, .ref 4096)]) (st' := [.int (nI i + 2), .ref 4096, .int (xs (i + 1)), .ref 0]) (h2 := (83, I, R0 p)) rfl ?_
  refine TT_sld (a := i + 2) rfl (nI_add i 2) (by omega) hL ?_
  refine TT_go 0 (pc' := 786) (lv' := [(3, .int (nI i)), (2, .ref 55), (1, .ref 0), (0, .ref 4096)]) (st' := [.int (xs (i + 2)), .int (xs (i + 1)), .ref 0]) (h2 := (83, I, R0 p)) rfl ?_
  refine TT_call (me' := mt_X8_split) (as := [.ref 0, .int (xs (i + 1)), .int (xs (i + 2))]) (rest := []) (r1 := some (.int r)) (h1 := (83, I1, R0 p)) rfl rfl rfl (t_X8_split hp h1) ?_
  refine TT_go 0 (pc' := 789) (lv' := [(3, .int (nI i)), (2, .ref 55), (1, .ref 0), (0, .ref 4096)]) (st' := [.int r]) (h2 := (83, I1, R0 p)) rfl ?_
  refine TT_go 5 (pc' := 794) (lv' := [(3, .int (nI i)), (2, .ref 55), (1, .ref 0), (0, .ref 4096)]) (st' := [.int (nI i + 1), .ref 4096, .ref 55, .int r]) (h2 := (83, I1, R0 p)) rfl ?_
  refine TT_sld (a := i + 1) rfl (nI_add i 1) (by omega) hL ?_
  refine TT_go 0 (pc' := 795) (lv' := [(3, .int (nI i)), (2, .ref 55), (1, .ref 0), (0, .ref 4096)]) (st' := [.int (xs (i + 1)), .ref 55, .int r]) (h2 := (83, I1, R0 p)) rfl ?_
  refine TT_go 4 (pc' := 799) (lv' := [(3, .int (nI i)), (2, .ref 55), (1, .ref 0), (0, .ref 4096)]) (st' := [.int (nI i + 2), .ref 4096, .int (xs (i + 1)), .ref 55, .int r]) (h2 := (83, I1, R0 p)) rfl ?_
  refine TT_sld (a := i + 2) rfl (nI_add i 2) (by omega) hL ?_
  refine TT_go 0 (pc' := 800) (lv' := [(3, .int (nI i)), (2, .ref 55), (1, .ref 0), (0, .ref 4096)]) (st' := [.int (xs (i + 2)), .int (xs (i + 1)), .ref 55, .int r]) (h2 := (83, I1, R0 p)) rfl ?_
  refine TT_call (me' := mt_X9_split) (as := [.ref 55, .int (xs (i + 1)), .int (xs (i + 2))]) (rest := [.int r]) (r1 := some (.int r)) (h1 := (83, I2, R0 p)) rfl rfl rfl (t_X9_split h2) ?_
  refine TT_go 0 (pc' := 803) (lv' := [(3, .int (nI i)), (2, .ref 55), (1, .ref 0), (0, .ref 4096)]) (st' := [.int r, .int r]) (h2 := (83, I2, R0 p)) rfl ?_
  exact TT_ieq_t (t := 943) rfl rfl rfl k
/-- night: class and reference answer alike, and the invariant is kept -/
def op_night (Inv : Nat → IH → Prop) : Prop := ∀ (p : Nat) (I : IH) (a0 : Int32) (a1 : Int32) (a2 : Int32), Inv p I → ∃ (n1 n2 : Nat) (r : Int32) (I1 I2 : IH), g_X8_night n1 p a0 a1 a2 I = some (r, I1) ∧ g_X9_night n2 a0 a1 a2 I1 = some (r, I2) ∧ Inv p I2
set_option maxRecDepth 20000 in
theorem law_night {L : Nat} {xs : Nat → Int32} {i p n1 n2 : Nat} {r : Int32} {I I1 I2 : IH} {h' : Hp} (hp : p = 5 ∨ p = 18) (hi : i + 6 ≤ L) (hL : L ≤ 3072) (h1 : g_X8_night n1 p (xs (i + 1)) (xs (i + 2)) (xs (i + 3)) I = some (r, I1)) (h2 : g_X9_night n2 (xs (i + 1)) (xs (i + 2)) (xs (i + 3)) I1 = some (r, I2)) (k : TT (some (L, xs)) mt_L 943 [(3, .int (nI i)), (2, .ref 55), (1, .ref 0), (0, .ref 4096)] [] (83, I2, R0 p) (some (.int 1)) h') : TT (some (L, xs)) mt_L 808 [(3, .int (nI i)), (2, .ref 55), (1, .ref 0), (0, .ref 4096)] [] (83, I, R0 p) (some (.int 1)) h' := by
  refine TT_go 5 (pc' := 813) (lv' := [(3, .int (nI i)), (2, .ref 55), (1, .ref 0), (0, .ref 4096)]) (st' := [.int (nI i + 1), .ref 4096, .ref 0]) (h2 := (83, I, R0 p)) rfl ?_
  refine TT_sld (a := i + 1) rfl (nI_add i 1) (by omega) hL ?_
  refine TT_go 0 (pc' := 814) (lv' := [(3, .int (nI i)), (2, .ref 55), (1, .ref 0), (0, .ref 4096)]) (st' := [.int (xs (i + 1)), .ref 0]) (h2 := (83, I, R0 p)) rfl ?_
  refine TT_go 4 (pc' := 818) (lv' := [(3, .int (nI i)), (2, .ref 55), (1, .ref 0), (0, .ref 4096)]) (st' := [.int (nI i + 2), .ref 4096, .int (xs (i + 1)), .ref 0]) (h2 := (83, I, R0 p)) rfl ?_
  refine TT_sld (a := i + 2) rfl (nI_add i 2) (by omega) hL ?_
  refine TT_go 0 (pc' := 819) (lv' := [(3, .int (nI i)), (2, .ref 55), (1, .ref 0), (0, .ref 4096)]) (st' := [.int (xs (i + 2)), .int (xs (i + 1)), .ref 0]) (h2 := (83, I, R0 p)) rfl ?_
  refine TT_go 4 (pc' := 823) (lv' := [(3, .int (nI i)), (2, .ref 55), (1, .ref 0), (0, .ref 4096)]) (st' := [.int (nI i + 3), .ref 4096, .int (xs (i + 2)), .int (xs (i + 1)), .ref 0]) (h2 := (83, I, R0 p)) rfl ?_
  refine TT_sld (a := i + 3) rfl (nI_add i 3) (by omega) hL ?_
  refine TT_go 0 (pc' := 824) (lv' := [(3, .int (nI i)), (2, .ref 55), (1, .ref 0), (0, .ref 4096)]) (st' := [.int (xs (i + 3)), .int (xs (i + 2)), .int (xs (i + 1)), .ref 0]) (h2 := (83, I, R0 p)) rfl ?_
  refine TT_call (me' := mt_X8_night) (as := [.ref 0, .int (xs (i + 1)), .int (xs (i + 2)), .int (xs (i + 3))]) (rest := []) (r1 := some (.int r)) (h1 := (83, I1, R0 p)) rfl rfl rfl (t_X8_night hp h1) ?_
  refine TT_go 0 (pc' := 827) (lv' := [(3, .int (nI i)), (2, .ref 55), (1, .ref 0), (0, .ref 4096)]) (st' := [.int r]) (h2 := (83, I1, R0 p)) rfl ?_
  refine TT_go 5 (pc' := 832) (lv' := [(3, .int (nI i)), (2, .ref 55), (1, .ref 0), (0, .ref 4096)]) (st' := [.int (nI i + 1), .ref 4096, .ref 55, .int r]) (h2 := (83, I1, R0 p)) rfl ?_
  refine TT_sld (a := i + 1) rfl (nI_add i 1) (by omega) hL ?_
  refine TT_go 0 (pc' := 833) (lv' := [(3, .int (nI i)), (2, .ref 55), (1, .ref 0), (0, .ref 4096)]) (st' := [.int (xs (i + 1)), .ref 55, .int r]) (h2 := (83, I1, R0 p)) rfl ?_
  refine TT_go 4 (pc' := 837) (lv' := [(3, .int (nI i)), (2, .ref 55), (1, .ref 0), (0, .ref 4096)]) (st' := [.int (nI i + 2), .ref 4096, .int (xs (i + 1)), .ref 55, .int r]) (h2 := (83, I1, R0 p)) rfl ?_
  refine TT_sld (a := i + 2) rfl (nI_add i 2) (by omega) hL ?_
  refine TT_go 0 (pc' := 838) (lv' := [(3, .int (nI i)), (2, .ref 55), (1, .ref 0), (0, .ref 4096)]) (st' := [.int (xs (i + 2)), .int (xs (i + 1)), .ref 55, .int r]) (h2 := (83, I1, R0 p)) rfl ?_
  refine TT_go 4 (pc' := 842) (lv' := [(3, .int (nI i)), (2, .ref 55), (1, .ref 0), (0, .ref 4096)]) (st' := [.int (nI i + 3), .ref 4096, .int (xs (i + 2)), .int (xs (i + 1)), .ref 55, .int r]) (h2 := (83, I1, R0 p)) rfl ?_
  refine TT_sld (a := i + 3) rfl (nI_add i 3) (by omega) hL ?_
  refine TT_go 0 (pc' := 843) (lv' := [(3, .int (nI i)), (2, .ref 55), (1, .ref 0), (0, .ref 4096)]) (st' := [.int (xs (i + 3)), .int (xs (i + 2)), .int (xs (i + 1)), .ref 55, .int r]) (h2 := (83, I1, R0 p)) rfl ?_
  refine TT_call (me' := mt_X9_night) (as := [.ref 55, .int (xs (i + 1)), .int (xs (i + 2)), .int (xs (i + 3))]) (rest := [.int r]) (r1 := some (.int r)) (h1 := (83, I2, R0 p)) rfl rfl rfl (t_X9_night h2) ?_
  refine TT_go 0 (pc' := 846) (lv' := [(3, .int (nI i)), (2, .ref 55), (1, .ref 0), (0, .ref 4096)]) (st' := [.int r, .int r]) (h2 := (83, I2, R0 p)) rfl ?_
  exact TT_ieq_t (t := 943) rfl rfl rfl k
/-- nightHas: class and reference answer alike, and the invariant is kept -/
def op_nightHas (Inv : Nat → IH → Prop) : Prop := ∀ (p : Nat) (I : IH) (a0 : Int32) (a1 : Int32) (a2 : Int32), Inv p I → ∃ (n1 n2 : Nat) (r : Int32) (I1 I2 : IH), g_X8_nightHas n1 p a0 a1 a2 I = some (r, I1) ∧ g_X9_nightHas n2 a0 a1 a2 I1 = some (r, I2) ∧ Inv p I2
set_option maxRecDepth 20000 in
theorem law_nightHas {L : Nat} {xs : Nat → Int32} {i p n1 n2 : Nat} {r : Int32} {I I1 I2 : IH} {h' : Hp} (hp : p = 5 ∨ p = 18) (hi : i + 6 ≤ L) (hL : L ≤ 3072) (h1 : g_X8_nightHas n1 p (xs (i + 1)) (xs (i + 2)) (xs (i + 3)) I = some (r, I1)) (h2 : g_X9_nightHas n2 (xs (i + 1)) (xs (i + 2)) (xs (i + 3)) I1 = some (r, I2)) (k : TT (some (L, xs)) mt_L 943 [(3, .int (nI i)), (2, .ref 55), (1, .ref 0), (0, .ref 4096)] [] (83, I2, R0 p) (some (.int 1)) h') : TT (some (L, xs)) mt_L 851 [(3, .int (nI i)), (2, .ref 55), (1, .ref 0), (0, .ref 4096)] [] (83, I, R0 p) (some (.int 1)) h' := by
  refine TT_go 5 (pc' := 856) (lv' := [(3, .int (nI i)), (2, .ref 55), (1, .ref 0), (0, .ref 4096)]) (st' := [.int (nI i + 1), .ref 4096, .ref 0]) (h2 := (83, I, R0 p)) rfl ?_
  refine TT_sld (a := i + 1) rfl (nI_add i 1) (by omega) hL ?_
  refine TT_go 0 (pc' := 857) (lv' := [(3, .int (nI i)), (2, .ref 55), (1, .ref 0), (0, .ref 4096)]) (st' := [.int (xs (i + 1)), .ref 0]) (h2 := (83, I, R0 p)) rfl ?_
  refine TT_go 4 (pc' := 861) (lv' := [(3, .int (nI i)), (2, .ref 55), (1, .ref 0), (0, .ref 4096)]) (st' := [.int (nI i + 2), .ref 4096, .int (xs (i + 1)), .ref 0]) (h2 := (83, I, R0 p)) rfl ?_
  refine TT_sld (a := i + 2) rfl (nI_add i 2) (by omega) hL ?_
  refine TT_go 0 (pc' := 862) (lv' := [(3, .int (nI i)), (2, .ref 55), (1, .ref 0), (0, .ref 4096)]) (st' := [.int (xs (i + 2)), .int (xs (i + 1)), .ref 0]) (h2 := (83, I, R0 p)) rfl ?_
  refine TT_go 4 (pc' := 866) (lv' := [(3, .int (nI i)), (2, .ref 55), (1, .ref 0), (0, .ref 4096)]) (st' := [.int (nI i + 3), .ref 4096, .int (xs (i + 2)), .int (xs (i + 1)), .ref 0]) (h2 := (83, I, R0 p)) rfl ?_
  refine TT_sld (a := i + 3) rfl (nI_add i 3) (by omega) hL ?_
  refine TT_go 0 (pc' := 867) (lv' := [(3, .int (nI i)), (2, .ref 55), (1, .ref 0), (0, .ref 4096)]) (st' := [.int (xs (i + 3)), .int (xs (i + 2)), .int (xs (i + 1)), .ref 0]) (h2 := (83, I, R0 p)) rfl ?_
  refine TT_call (me' := mt_X8_nightHas) (as := [.ref 0, .int (xs (i + 1)), .int (xs (i + 2)), .int (xs (i + 3))]) (rest := []) (r1 := some (.int r)) (h1 := (83, I1, R0 p)) rfl rfl rfl (t_X8_nightHas hp h1) ?_
  refine TT_go 0 (pc' := 870) (lv' := [(3, .int (nI i)), (2, .ref 55), (1, .ref 0), (0, .ref 4096)]) (st' := [.int r]) (h2 := (83, I1, R0 p)) rfl ?_
  refine TT_go 5 (pc' := 875) (lv' := [(3, .int (nI i)), (2, .ref 55), (1, .ref 0), (0, .ref 4096)]) (st' := [.int (nI i + 1), .ref 4096, .ref 55, .int r]) (h2 := (83, I1, R0 p)) rfl ?_
  refine TT_sld (a := i + 1) rfl (nI_add i 1) (by omega) hL ?_
  refine TT_go 0 (pc' := 876) (lv' := [(3, .int (nI i)), (2, .ref 55), (1, .ref 0), (0, .ref 4096)]) (st' := [.int (xs (i + 1)), .ref 55, .int r]) (h2 := (83, I1, R0 p)) rfl ?_
  refine TT_go 4 (pc' := 880) (lv' := [(3, .int (nI i)), (2, .ref 55), (1, .ref 0), (0, .ref 4096)]) (st' := [.int (nI i + 2), .ref 4096, .int (xs (i + 1)), .ref 55, .int r]) (h2 := (83, I1, R0 p)) rfl ?_
  refine TT_sld (a := i + 2) rfl (nI_add i 2) (by omega) hL ?_
  refine TT_go 0 (pc' := 881) (lv' := [(3, .int (nI i)), (2, .ref 55), (1, .ref 0), (0, .ref 4096)]) (st' := [.int (xs (i + 2)), .int (xs (i + 1)), .ref 55, .int r]) (h2 := (83, I1, R0 p)) rfl ?_
  refine TT_go 4 (pc' := 885) (lv' := [(3, .int (nI i)), (2, .ref 55), (1, .ref 0), (0, .ref 4096)]) (st' := [.int (nI i + 3), .ref 4096, .int (xs (i + 2)), .int (xs (i + 1)), .ref 55, .int r]) (h2 := (83, I1, R0 p)) rfl ?_
  refine TT_sld (a := i + 3) rfl (nI_add i 3) (by omega) hL ?_
  refine TT_go 0 (pc' := 886) (lv' := [(3, .int (nI i)), (2, .ref 55), (1, .ref 0), (0, .ref 4096)]) (st' := [.int (xs (i + 3)), .int (xs (i + 2)), .int (xs (i + 1)), .ref 55, .int r]) (h2 := (83, I1, R0 p)) rfl ?_
  refine TT_call (me' := mt_X9_nightHas) (as := [.ref 55, .int (xs (i + 1)), .int (xs (i + 2)), .int (xs (i + 3))]) (rest := [.int r]) (r1 := some (.int r)) (h1 := (83, I2, R0 p)) rfl rfl rfl (t_X9_nightHas h2) ?_
  refine TT_go 0 (pc' := 889) (lv' := [(3, .int (nI i)), (2, .ref 55), (1, .ref 0), (0, .ref 4096)]) (st' := [.int r, .int r]) (h2 := (83, I2, R0 p)) rfl ?_
  exact TT_ieq_t (t := 943) rfl rfl rfl k
/-- keep: class and reference answer alike, and the invariant is kept -/
def op_keep (Inv : Nat → IH → Prop) : Prop := ∀ (p : Nat) (I : IH), Inv p I → ∃ (n1 n2 : Nat) (r : Int32) (I1 I2 : IH), g_X8_keep n1 p I = some (r, I1) ∧ g_X9_keep n2 I1 = some (r, I2) ∧ Inv p I2
set_option maxRecDepth 20000 in
theorem law_keep {L : Nat} {xs : Nat → Int32} {i p n1 n2 : Nat} {r : Int32} {I I1 I2 : IH} {h' : Hp} (hp : p = 5 ∨ p = 18) (hi : i + 6 ≤ L) (hL : L ≤ 3072) (h1 : g_X8_keep n1 p I = some (r, I1)) (h2 : g_X9_keep n2 I1 = some (r, I2)) (k : TT (some (L, xs)) mt_L 943 [(3, .int (nI i)), (2, .ref 55), (1, .ref 0), (0, .ref 4096)] [] (83, I2, R0 p) (some (.int 1)) h') : TT (some (L, xs)) mt_L 894 [(3, .int (nI i)), (2, .ref 55), (1, .ref 0), (0, .ref 4096)] [] (83, I, R0 p) (some (.int 1)) h' := by
  refine TT_go 1 (pc' := 895) (lv' := [(3, .int (nI i)), (2, .ref 55), (1, .ref 0), (0, .ref 4096)]) (st' := [.ref 0]) (h2 := (83, I, R0 p)) rfl ?_
  refine TT_call (me' := mt_X8_keep) (as := [.ref 0]) (rest := []) (r1 := some (.int r)) (h1 := (83, I1, R0 p)) rfl rfl rfl (t_X8_keep hp h1) ?_
  refine TT_go 0 (pc' := 898) (lv' := [(3, .int (nI i)), (2, .ref 55), (1, .ref 0), (0, .ref 4096)]) (st' := [.int r]) (h2 := (83, I1, R0 p)) rfl ?_
  refine TT_go 1 (pc' := 899) (lv' := [(3, .int (nI i)), (2, .ref 55), (1, .ref 0), (0, .ref 4096)]) (st' := [.ref 55, .int r]) (h2 := (83, I1, R0 p)) rfl ?_
  refine TT_call (me' := mt_X9_keep) (as := [.ref 55]) (rest := [.int r]) (r1 := some (.int r)) (h1 := (83, I2, R0 p)) rfl rfl rfl (t_X9_keep h2) ?_
  refine TT_go 0 (pc' := 902) (lv' := [(3, .int (nI i)), (2, .ref 55), (1, .ref 0), (0, .ref 4096)]) (st' := [.int r, .int r]) (h2 := (83, I2, R0 p)) rfl ?_
  exact TT_ieq_t (t := 943) rfl rfl rfl k
/-- back: class and reference answer alike, and the invariant is kept -/
def op_back (Inv : Nat → IH → Prop) : Prop := ∀ (p : Nat) (I : IH), Inv p I → ∃ (n1 n2 : Nat) (r : Int32) (I1 I2 : IH), g_X8_back n1 p I = some (r, I1) ∧ g_X9_back n2 I1 = some (r, I2) ∧ Inv p I2
set_option maxRecDepth 20000 in
theorem law_back {L : Nat} {xs : Nat → Int32} {i p n1 n2 : Nat} {r : Int32} {I I1 I2 : IH} {h' : Hp} (hp : p = 5 ∨ p = 18) (hi : i + 6 ≤ L) (hL : L ≤ 3072) (h1 : g_X8_back n1 p I = some (r, I1)) (h2 : g_X9_back n2 I1 = some (r, I2)) (k : TT (some (L, xs)) mt_L 943 [(3, .int (nI i)), (2, .ref 55), (1, .ref 0), (0, .ref 4096)] [] (83, I2, R0 p) (some (.int 1)) h') : TT (some (L, xs)) mt_L 907 [(3, .int (nI i)), (2, .ref 55), (1, .ref 0), (0, .ref 4096)] [] (83, I, R0 p) (some (.int 1)) h' := by
  refine TT_go 1 (pc' := 908) (lv' := [(3, .int (nI i)), (2, .ref 55), (1, .ref 0), (0, .ref 4096)]) (st' := [.ref 0]) (h2 := (83, I, R0 p)) rfl ?_
  refine TT_call (me' := mt_X8_back) (as := [.ref 0]) (rest := []) (r1 := some (.int r)) (h1 := (83, I1, R0 p)) rfl rfl rfl (t_X8_back hp h1) ?_
  refine TT_go 0 (pc' := 911) (lv' := [(3, .int (nI i)), (2, .ref 55), (1, .ref 0), (0, .ref 4096)]) (st' := [.int r]) (h2 := (83, I1, R0 p)) rfl ?_
  refine TT_go 1 (pc' := 912) (lv' := [(3, .int (nI i)), (2, .ref 55), (1, .ref 0), (0, .ref 4096)]) (st' := [.ref 55, .int r]) (h2 := (83, I1, R0 p)) rfl ?_
  refine TT_call (me' := mt_X9_back) (as := [.ref 55]) (rest := [.int r]) (r1 := some (.int r)) (h1 := (83, I2, R0 p)) rfl rfl rfl (t_X9_back h2) ?_
  refine TT_go 0 (pc' := 915) (lv' := [(3, .int (nI i)), (2, .ref 55), (1, .ref 0), (0, .ref 4096)]) (st' := [.int r, .int r]) (h2 := (83, I2, R0 p)) rfl ?_
  exact TT_ieq_t (t := 943) rfl rfl rfl k
/-- count: class and reference answer alike, and the invariant is kept -/
def op_count (Inv : Nat → IH → Prop) : Prop := ∀ (p : Nat) (I : IH) (a0 : Int32), Inv p I → ∃ (n1 n2 : Nat) (r : Int32) (I1 I2 : IH), g_X8_count n1 p a0 I = some (r, I1) ∧ g_X9_count n2 a0 I1 = some (r, I2) ∧ Inv p I2
set_option maxRecDepth 20000 in
theorem law_count {L : Nat} {xs : Nat → Int32} {i p n1 n2 : Nat} {r : Int32} {I I1 I2 : IH} {h' : Hp} (hp : p = 5 ∨ p = 18) (hi : i + 6 ≤ L) (hL : L ≤ 3072) (h1 : g_X8_count n1 p (xs (i + 1)) I = some (r, I1)) (h2 : g_X9_count n2 (xs (i + 1)) I1 = some (r, I2)) (k : TT (some (L, xs)) mt_L 943 [(3, .int (nI i)), (2, .ref 55), (1, .ref 0), (0, .ref 4096)] [] (83, I2, R0 p) (some (.int 1)) h') : TT (some (L, xs)) mt_L 920 [(3, .int (nI i)), (2, .ref 55), (1, .ref 0), (0, .ref 4096)] [] (83, I, R0 p) (some (.int 1)) h' := by
  refine TT_go 5 (pc' := 925) (lv' := [(3, .int (nI i)), (2, .ref 55), (1, .ref 0), (0, .ref 4096)]) (st' := [.int (nI i + 1), .ref 4096, .ref 0]) (h2 := (83, I, R0 p)) rfl ?_
  refine TT_sld (a := i + 1) rfl (nI_add i 1) (by omega) hL ?_
  refine TT_go 0 (pc' := 926) (lv' := [(3, .int (nI i)), (2, .ref 55), (1, .ref 0), (0, .ref 4096)]) (st' := [.int (xs (i + 1)), .ref 0]) (h2 := (83, I, R0 p)) rfl ?_
  refine TT_call (me' := mt_X8_count) (as := [.ref 0, .int (xs (i + 1))]) (rest := []) (r1 := some (.int r)) (h1 := (83, I1, R0 p)) rfl rfl rfl (t_X8_count hp h1) ?_
  refine TT_go 0 (pc' := 929) (lv' := [(3, .int (nI i)), (2, .ref 55), (1, .ref 0), (0, .ref 4096)]) (st' := [.int r]) (h2 := (83, I1, R0 p)) rfl ?_
  refine TT_go 5 (pc' := 934) (lv' := [(3, .int (nI i)), (2, .ref 55), (1, .ref 0), (0, .ref 4096)]) (st' := [.int (nI i + 1), .ref 4096, .ref 55, .int r]) (h2 := (83, I1, R0 p)) rfl ?_
  refine TT_sld (a := i + 1) rfl (nI_add i 1) (by omega) hL ?_
  refine TT_go 0 (pc' := 935) (lv' := [(3, .int (nI i)), (2, .ref 55), (1, .ref 0), (0, .ref 4096)]) (st' := [.int (xs (i + 1)), .ref 55, .int r]) (h2 := (83, I1, R0 p)) rfl ?_
  refine TT_call (me' := mt_X9_count) (as := [.ref 55, .int (xs (i + 1))]) (rest := [.int r]) (r1 := some (.int r)) (h1 := (83, I2, R0 p)) rfl rfl rfl (t_X9_count h2) ?_
  refine TT_go 0 (pc' := 938) (lv' := [(3, .int (nI i)), (2, .ref 55), (1, .ref 0), (0, .ref 4096)]) (st' := [.int r, .int r]) (h2 := (83, I2, R0 p)) rfl ?_
  exact TT_ieq_t (t := 943) rfl rfl rfl k
theorem law_cond {L i : Nat} (hL : L ≤ 3072) (hi : i ≤ 4000) : (Int32.ofNat L - 6 < nI i) ↔ ¬ i + 6 ≤ L := by
  rw [Int32.lt_iff_toInt_lt, nI_toInt (by omega)]
  have e : (Int32.ofNat L - 6).toInt = (L : Int) - 6 := pk_sub_toInt (a := L) (b := 6) (by omega) (by omega)
  rw [e]
  omega
/-- all the calls of the law -/
def opsOK (Inv : Nat → IH → Prop) : Prop := (∀ p I, Inv p I → p = 5 ∨ p = 18) ∧ op_write Inv ∧ op_wipe Inv ∧ op_fault Inv ∧ op_lay Inv ∧ op_glass Inv ∧ op_has Inv ∧ op_minutes Inv ∧ op_turn Inv ∧ op_pour Inv ∧ op_undo Inv ∧ op_later Inv ∧ op_falls Inv ∧ op_empty Inv ∧ op_late Inv ∧ op_gains Inv ∧ op_run Inv ∧ op_round Inv ∧ op_counted Inv ∧ op_stolen Inv ∧ op_split Inv ∧ op_night Inv ∧ op_nightHas Inv ∧ op_keep Inv ∧ op_back Inv ∧ op_count Inv
set_option maxRecDepth 20000 in
set_option maxHeartbeats 4000000 in
theorem law_loop {Inv : Nat → IH → Prop} (hops : opsOK Inv) {L : Nat} {xs : Nat → Int32} (hL : L ≤ 3072) : ∀ (m i p : Nat) (I : IH), L + 6 - i < m → i ≤ L + 6 → Inv p I → ∃ h' : Hp, h'.1 = 83 ∧ TT (some (L, xs)) mt_L 18 [(3, .int (nI i)), (2, .ref 55), (1, .ref 0), (0, .ref 4096)] [] (83, I, R0 p) (some (.int 1)) h' := by
  obtain ⟨hpp, o0, o1, o2, o3, o4, o5, o6, o7, o8, o9, o10, o11, o12, o13, o14, o15, o16, o17, o18, o19, o20, o21, o22, o23, o24⟩ := hops
  intro m
  induction m with
  | zero => intro i p I hm; omega
  | succ m ih =>
    intro i p I hm hi hI
    have hp := hpp p I hI
    by_cases hc : i + 6 ≤ L
    · -- a call
      have hnext : ∀ (p' : Nat) (I2 : IH), Inv p' I2 → ∃ h' : Hp, h'.1 = 83 ∧ TT (some (L, xs)) mt_L 943 [(3, .int (nI i)), (2, .ref 55), (1, .ref 0), (0, .ref 4096)] [] (83, I2, R0 p') (some (.int 1)) h' := by
        intro p' I2 hI2
        obtain ⟨h', hz, k⟩ := ih (i + 6) p' I2 (by omega) (by omega) hI2
        refine ⟨h', hz, ?_⟩
        refine TT_go 2 (pc' := 18) (lv' := [(3, .int (nI i + 6)), (2, .ref 55), (1, .ref 0), (0, .ref 4096)]) (st' := []) (h2 := (83, I2, R0 p')) rfl ?_
        rw [show nI i + 6 = nI (i + 6) from nI_add i 6]
        exact k
      have hgo : ∀ h' : Hp, TT (some (L, xs)) mt_L 33 [(3, .int (nI i)), (2, .ref 55), (1, .ref 0), (0, .ref 4096)] [.int (xs i &&& 31)] (83, I, R0 p) (some (.int 1)) h' → TT (some (L, xs)) mt_L 18 [(3, .int (nI i)), (2, .ref 55), (1, .ref 0), (0, .ref 4096)] [] (83, I, R0 p) (some (.int 1)) h' := by
        intro h' k
        refine TT_go 5 (pc' := 24) (lv' := [(3, .int (nI i)), (2, .ref 55), (1, .ref 0), (0, .ref 4096)]) (st' := [.int (Int32.ofNat L - 6), .int (nI i)]) (h2 := (83, I, R0 p)) rfl ?_
        refine TT_igt_f (t := 949) rfl rfl (fun q => absurd hc ((law_cond hL (by omega)).mp q)) ?_
        refine TT_go 2 (pc' := 29) (lv' := [(3, .int (nI i)), (2, .ref 55), (1, .ref 0), (0, .ref 4096)]) (st' := [.int (nI i), .ref 4096]) (h2 := (83, I, R0 p)) rfl ?_
        refine TT_sld (a := i) rfl rfl (by omega) hL ?_
        refine TT_go 2 (pc' := 33) (lv' := [(3, .int (nI i)), (2, .ref 55), (1, .ref 0), (0, .ref 4096)]) (st' := [.int (xs i &&& 31)]) (h2 := (83, I, R0 p)) rfl ?_
        exact k
      generalize hx : xs i &&& 31 = x at hgo
      by_cases e0 : x = 0
      · obtain ⟨n1, n2, r, I1, I2, h1, h2, hI2⟩ := o0 p I (xs (i + 1)) ((Int32.toInt64 (xs (i + 2)) <<< (Int32.toInt64 32 &&& 63)) ||| (Int32.toInt64 (xs (i + 3)) &&& 4294967295)) hI
        obtain ⟨h', hz, k⟩ := hnext _ I2 hI2
        refine ⟨h', hz, hgo h' ?_⟩
        refine TT_tin (t := 148) (off := 115) rfl (by rw [e0]; decide) (by rw [e0]; rfl) rfl ?_
        exact law_write hp hc hL h1 h2 k
      by_cases e1 : x = 1
      · obtain ⟨n1, n2, r, I1, I2, h1, h2, hI2⟩ := o1 p I hI
        obtain ⟨h', hz, k⟩ := hnext _ I2 hI2
        refine ⟨h', hz, hgo h' ?_⟩
        refine TT_tin (t := 211) (off := 178) rfl (by rw [e1]; decide) (by rw [e1]; rfl) rfl ?_
        exact law_wipe hp hc hL h1 h2 k
      by_cases e2 : x = 2
      · obtain ⟨n1, n2, r, I1, I2, h1, h2, hI2⟩ := o2 p I hI
        obtain ⟨h', hz, k⟩ := hnext _ I2 hI2
        refine ⟨h', hz, hgo h' ?_⟩
        refine TT_tin (t := 224) (off := 191) rfl (by rw [e2]; decide) (by rw [e2]; rfl) rfl ?_
        exact law_fault hp hc hL h1 h2 k
      by_cases e3 : x = 3
      · obtain ⟨n1, n2, r, I1, I2, p', h1, h2, hI2⟩ := o3 p I hI
        obtain ⟨h', hz, k⟩ := hnext _ I2 hI2
        refine ⟨h', hz, hgo h' ?_⟩
        refine TT_tin (t := 237) (off := 204) rfl (by rw [e3]; decide) (by rw [e3]; rfl) rfl ?_
        exact law_lay hp hc hL h1 h2 k
      by_cases e4 : x = 4
      · obtain ⟨n1, n2, r, I1, I2, h1, h2, hI2⟩ := o4 p I (xs (i + 1)) (xs (i + 2)) hI
        obtain ⟨h', hz, k⟩ := hnext _ I2 hI2
        refine ⟨h', hz, hgo h' ?_⟩
        refine TT_tin (t := 250) (off := 217) rfl (by rw [e4]; decide) (by rw [e4]; rfl) rfl ?_
        exact law_glass hp hc hL h1 h2 k
      by_cases e5 : x = 5
      · obtain ⟨n1, n2, r, I1, I2, h1, h2, hI2⟩ := o5 p I (xs (i + 1)) hI
        obtain ⟨h', hz, k⟩ := hnext _ I2 hI2
        refine ⟨h', hz, hgo h' ?_⟩
        refine TT_tin (t := 283) (off := 250) rfl (by rw [e5]; decide) (by rw [e5]; rfl) rfl ?_
        exact law_has hp hc hL h1 h2 k
      by_cases e6 : x = 6
      · obtain ⟨n1, n2, r, I1, I2, h1, h2, hI2⟩ := o6 p I (xs (i + 1)) hI
        obtain ⟨h', hz, k⟩ := hnext _ I2 hI2
        refine ⟨h', hz, hgo h' ?_⟩
        refine TT_tin (t := 306) (off := 273) rfl (by rw [e6]; decide) (by rw [e6]; rfl) rfl ?_
        exact law_minutes hp hc hL h1 h2 k
      by_cases e7 : x = 7
      · obtain ⟨n1, n2, r, I1, I2, h1, h2, hI2⟩ := o7 p I (xs (i + 1)) hI
        obtain ⟨h', hz, k⟩ := hnext _ I2 hI2
        refine ⟨h', hz, hgo h' ?_⟩
        refine TT_tin (t := 329) (off := 296) rfl (by rw [e7]; decide) (by rw [e7]; rfl) rfl ?_
        exact law_turn hp hc hL h1 h2 k
      by_cases e8 : x = 8
      · obtain ⟨n1, n2, r, I1, I2, h1, h2, hI2⟩ := o8 p I (xs (i + 1)) (xs (i + 2)) (xs (i + 3)) (xs (i + 4)) (xs (i + 5)) hI
        obtain ⟨h', hz, k⟩ := hnext _ I2 hI2
        refine ⟨h', hz, hgo h' ?_⟩
        refine TT_tin (t := 352) (off := 319) rfl (by rw [e8]; decide) (by rw [e8]; rfl) rfl ?_
        exact law_pour hp hc hL h1 h2 k
      by_cases e9 : x = 9
      · obtain ⟨n1, n2, r, I1, I2, h1, h2, hI2⟩ := o9 p I hI
        obtain ⟨h', hz, k⟩ := hnext _ I2 hI2
        refine ⟨h', hz, hgo h' ?_⟩
        refine TT_tin (t := 415) (off := 382) rfl (by rw [e9]; decide) (by rw [e9]; rfl) rfl ?_
        exact law_undo hp hc hL h1 h2 k
      by_cases e10 : x = 10
      · obtain ⟨n1, n2, r, I1, I2, h1, h2, hI2⟩ := o10 p I (xs (i + 1)) (xs (i + 2)) hI
        obtain ⟨h', hz, k⟩ := hnext _ I2 hI2
        refine ⟨h', hz, hgo h' ?_⟩
        refine TT_tin (t := 428) (off := 395) rfl (by rw [e10]; decide) (by rw [e10]; rfl) rfl ?_
        exact law_later hp hc hL h1 h2 k
      by_cases e11 : x = 11
      · obtain ⟨n1, n2, r, I1, I2, h1, h2, hI2⟩ := o11 p I (xs (i + 1)) (xs (i + 2)) (xs (i + 3)) hI
        obtain ⟨h', hz, k⟩ := hnext _ I2 hI2
        refine ⟨h', hz, hgo h' ?_⟩
        refine TT_tin (t := 461) (off := 428) rfl (by rw [e11]; decide) (by rw [e11]; rfl) rfl ?_
        exact law_falls hp hc hL h1 h2 k
      by_cases e12 : x = 12
      · obtain ⟨n1, n2, r, I1, I2, h1, h2, hI2⟩ := o12 p I (xs (i + 1)) hI
        obtain ⟨h', hz, k⟩ := hnext _ I2 hI2
        refine ⟨h', hz, hgo h' ?_⟩
        refine TT_tin (t := 504) (off := 471) rfl (by rw [e12]; decide) (by rw [e12]; rfl) rfl ?_
        exact law_empty hp hc hL h1 h2 k
      by_cases e13 : x = 13
      · obtain ⟨n1, n2, r, I1, I2, h1, h2, hI2⟩ := o13 p I (xs (i + 1)) (xs (i + 2)) (xs (i + 3)) (xs (i + 4)) hI
        obtain ⟨h', hz, k⟩ := hnext _ I2 hI2
        refine ⟨h', hz, hgo h' ?_⟩
        refine TT_tin (t := 527) (off := 494) rfl (by rw [e13]; decide) (by rw [e13]; rfl) rfl ?_
        exact law_late hp hc hL h1 h2 k
      by_cases e14 : x = 14
      · obtain ⟨n1, n2, r, I1, I2, h1, h2, hI2⟩ := o14 p I (xs (i + 1)) (xs (i + 2)) (xs (i + 3)) (xs (i + 4)) hI
        obtain ⟨h', hz, k⟩ := hnext _ I2 hI2
        refine ⟨h', hz, hgo h' ?_⟩
        refine TT_tin (t := 580) (off := 547) rfl (by rw [e14]; decide) (by rw [e14]; rfl) rfl ?_
        exact law_gains hp hc hL h1 h2 k
      by_cases e15 : x = 15
      · obtain ⟨n1, n2, r, I1, I2, h1, h2, hI2⟩ := o15 p I (xs (i + 1)) hI
        obtain ⟨h', hz, k⟩ := hnext _ I2 hI2
        refine ⟨h', hz, hgo h' ?_⟩
        refine TT_tin (t := 633) (off := 600) rfl (by rw [e15]; decide) (by rw [e15]; rfl) rfl ?_
        exact law_run hp hc hL h1 h2 k
      by_cases e16 : x = 16
      · obtain ⟨n1, n2, r, I1, I2, h1, h2, hI2⟩ := o16 p I (xs (i + 1)) (xs (i + 2)) (xs (i + 3)) hI
        obtain ⟨h', hz, k⟩ := hnext _ I2 hI2
        refine ⟨h', hz, hgo h' ?_⟩
        refine TT_tin (t := 656) (off := 623) rfl (by rw [e16]; decide) (by rw [e16]; rfl) rfl ?_
        exact law_round hp hc hL h1 h2 k
      by_cases e17 : x = 17
      · obtain ⟨n1, n2, r, I1, I2, h1, h2, hI2⟩ := o17 p I (xs (i + 1)) (xs (i + 2)) (xs (i + 3)) hI
        obtain ⟨h', hz, k⟩ := hnext _ I2 hI2
        refine ⟨h', hz, hgo h' ?_⟩
        refine TT_tin (t := 699) (off := 666) rfl (by rw [e17]; decide) (by rw [e17]; rfl) rfl ?_
        exact law_counted hp hc hL h1 h2 k
      by_cases e18 : x = 18
      · obtain ⟨n1, n2, r, I1, I2, h1, h2, hI2⟩ := o18 p I (xs (i + 1)) (xs (i + 2)) hI
        obtain ⟨h', hz, k⟩ := hnext _ I2 hI2
        refine ⟨h', hz, hgo h' ?_⟩
        refine TT_tin (t := 742) (off := 709) rfl (by rw [e18]; decide) (by rw [e18]; rfl) rfl ?_
        exact law_stolen hp hc hL h1 h2 k
      by_cases e19 : x = 19
      · obtain ⟨n1, n2, r, I1, I2, h1, h2, hI2⟩ := o19 p I (xs (i + 1)) (xs (i + 2)) hI
        obtain ⟨h', hz, k⟩ := hnext _ I2 hI2
        refine ⟨h', hz, hgo h' ?_⟩
        refine TT_tin (t := 775) (off := 742) rfl (by rw [e19]; decide) (by rw [e19]; rfl) rfl ?_
        exact law_split hp hc hL h1 h2 k
      by_cases e20 : x = 20
      · obtain ⟨n1, n2, r, I1, I2, h1, h2, hI2⟩ := o20 p I (xs (i + 1)) (xs (i + 2)) (xs (i + 3)) hI
        obtain ⟨h', hz, k⟩ := hnext _ I2 hI2
        refine ⟨h', hz, hgo h' ?_⟩
        refine TT_tin (t := 808) (off := 775) rfl (by rw [e20]; decide) (by rw [e20]; rfl) rfl ?_
        exact law_night hp hc hL h1 h2 k
      by_cases e21 : x = 21
      · obtain ⟨n1, n2, r, I1, I2, h1, h2, hI2⟩ := o21 p I (xs (i + 1)) (xs (i + 2)) (xs (i + 3)) hI
        obtain ⟨h', hz, k⟩ := hnext _ I2 hI2
        refine ⟨h', hz, hgo h' ?_⟩
        refine TT_tin (t := 851) (off := 818) rfl (by rw [e21]; decide) (by rw [e21]; rfl) rfl ?_
        exact law_nightHas hp hc hL h1 h2 k
      by_cases e22 : x = 22
      · obtain ⟨n1, n2, r, I1, I2, h1, h2, hI2⟩ := o22 p I hI
        obtain ⟨h', hz, k⟩ := hnext _ I2 hI2
        refine ⟨h', hz, hgo h' ?_⟩
        refine TT_tin (t := 894) (off := 861) rfl (by rw [e22]; decide) (by rw [e22]; rfl) rfl ?_
        exact law_keep hp hc hL h1 h2 k
      by_cases e23 : x = 23
      · obtain ⟨n1, n2, r, I1, I2, h1, h2, hI2⟩ := o23 p I hI
        obtain ⟨h', hz, k⟩ := hnext _ I2 hI2
        refine ⟨h', hz, hgo h' ?_⟩
        refine TT_tin (t := 907) (off := 874) rfl (by rw [e23]; decide) (by rw [e23]; rfl) rfl ?_
        exact law_back hp hc hL h1 h2 k
      by_cases e24 : x = 24
      · obtain ⟨n1, n2, r, I1, I2, h1, h2, hI2⟩ := o24 p I (xs (i + 1)) hI
        obtain ⟨h', hz, k⟩ := hnext _ I2 hI2
        refine ⟨h', hz, hgo h' ?_⟩
        refine TT_tin (t := 920) (off := 887) rfl (by rw [e24]; decide) (by rw [e24]; rfl) rfl ?_
        exact law_count hp hc hL h1 h2 k
      obtain ⟨h', hz, k⟩ := hnext _ I hI
      refine ⟨h', hz, hgo h' ?_⟩
      refine TT_tout (t := 943) rfl ?_ rfl k
      have f0 := lv_neT (a := 0) e0 (by decide)
      have f1 := lv_neT (a := 1) e1 (by decide)
      have f2 := lv_neT (a := 2) e2 (by decide)
      have f3 := lv_neT (a := 3) e3 (by decide)
      have f4 := lv_neT (a := 4) e4 (by decide)
      have f5 := lv_neT (a := 5) e5 (by decide)
      have f6 := lv_neT (a := 6) e6 (by decide)
      have f7 := lv_neT (a := 7) e7 (by decide)
      have f8 := lv_neT (a := 8) e8 (by decide)
      have f9 := lv_neT (a := 9) e9 (by decide)
      have f10 := lv_neT (a := 10) e10 (by decide)
      have f11 := lv_neT (a := 11) e11 (by decide)
      have f12 := lv_neT (a := 12) e12 (by decide)
      have f13 := lv_neT (a := 13) e13 (by decide)
      have f14 := lv_neT (a := 14) e14 (by decide)
      have f15 := lv_neT (a := 15) e15 (by decide)
      have f16 := lv_neT (a := 16) e16 (by decide)
      have f17 := lv_neT (a := 17) e17 (by decide)
      have f18 := lv_neT (a := 18) e18 (by decide)
      have f19 := lv_neT (a := 19) e19 (by decide)
      have f20 := lv_neT (a := 20) e20 (by decide)
      have f21 := lv_neT (a := 21) e21 (by decide)
      have f22 := lv_neT (a := 22) e22 (by decide)
      have f23 := lv_neT (a := 23) e23 (by decide)
      have f24 := lv_neT (a := 24) e24 (by decide)
      have hr : 0 ≤ x.toInt ∧ x.toInt < 32 := by
        obtain ⟨j, hj, hj2⟩ := pk_andE (xs i) (m := 31) 5 (by decide)
        rw [← hx, hj2, nI_toInt (by omega)]
        omega
      omega
    · refine ⟨(83, I, R0 p), rfl, ?_⟩
      refine TT_go 5 (pc' := 24) (lv' := [(3, .int (nI i)), (2, .ref 55), (1, .ref 0), (0, .ref 4096)]) (st' := [.int (Int32.ofNat L - 6), .int (nI i)]) (h2 := (83, I, R0 p)) rfl ?_
      refine TT_igt_t (t := 949) rfl rfl ((law_cond hL (by omega)).mpr hc) ?_
      refine TT_go 1 (pc' := 950) (lv' := [(3, .int (nI i)), (2, .ref 55), (1, .ref 0), (0, .ref 4096)]) (st' := [.int 1]) (h2 := (83, I, R0 p)) rfl ?_
      exact TT_ret rfl rfl
