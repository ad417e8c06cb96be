/-! items one behind the other -/
def wn (c : Nat) : Nat := if c = 99 then 3 else if c = 103 then 6 else if c = 112 then 2 else if c = 114 then 2 else if c = 121 then 2 else 0
theorem wn_le (c : Nat) : wn c ≤ 6 := by
  unfold wn
  repeat' split
  all_goals omega
theorem c_nof {n c : Nat} (hc : c < 256) {I : IH} : g_X3_numbersOf n (nI c) I = some (nI (wn c), I) := by
  simp only [g_X3_numbersOf]
  unfold wn
  have e : ∀ k : Nat, k < 256 → (nI c = nI k ↔ c = k) := fun k hk => nI_eq (by omega) (by omega)
  have e1 : (nI c = 99) ↔ c = 99 := e 99 (by omega)
  have e2 : (nI c = 103) ↔ c = 103 := e 103 (by omega)
  have e3 : (nI c = 112) ↔ c = 112 := e 112 (by omega)
  have e4 : (nI c = 114) ↔ c = 114 := e 114 (by omega)
  have e5 : (nI c = 121) ↔ c = 121 := e 121 (by omega)
  simp only [e1, e2, e3, e4, e5]
  split
  · rfl
  · split
    · rfl
    · split
      · rfl
      · split
        · rfl
        · split <;> rfl
theorem c_add {n q c : Nat} {π : Pln} {a : Nat → Nat} {J : IH} (hc : c < 256) (hv : PVd π) (ha : ∀ j, a j ≤ 999) (hP : PlC J q π) (hx : ∀ j, j < wn c → J 4 j = nI (a j)) :
    (ad c π a = none → g_X3_readItem_106 n q (nI c) J = some (0, J)) ∧ ∀ π', ad c π a = some π' → ∃ K, g_X3_readItem_106 n q (nI c) J = some (1, K) ∧ PlC K q π' ∧ frC q J K := by
  have e : ∀ k : Nat, k < 256 → (nI c = nI k ↔ c = k) := fun k hk => nI_eq (by omega) (by omega)
  have e1 : (nI c = 99) ↔ c = 99 := e 99 (by omega)
  have e2 : (nI c = 103) ↔ c = 103 := e 103 (by omega)
  have e3 : (nI c = 112) ↔ c = 112 := e 112 (by omega)
  have e4 : (nI c = 114) ↔ c = 114 := e 114 (by omega)
  have e5 : (nI c = 121) ↔ c = 121 := e 121 (by omega)
  simp only [g_X3_readItem_106, g_X3_addItem, bnd_eq, ad, e1, e2, e3, e4, e5]
  by_cases h1 : c = 99
  · have w : wn c = 3 := by rw [h1]; rfl
    rw [w] at hx
    simp only [if_pos h1]
    rw [hx 0 (by omega), hx 1 (by omega), hx 2 (by omega)]
    obtain ⟨y1, y2⟩ := c_addC (n := n) hv ha hP
    by_cases o : okC π a
    · obtain ⟨K, z1, z2, z3⟩ := y1 o
      simp only [z1, if_pos o, or_true, if_true]
      exact ⟨fun h => (by cases h), fun π' h => (by cases h; exact ⟨K, rfl, z2, z3⟩)⟩
    · simp only [y2 o, if_neg o, true_or, if_true]
      exact ⟨fun _ => trivial, fun _ h => (by cases h)⟩
  simp only [if_neg h1]
  by_cases h2 : c = 103
  · have w : wn c = 6 := by rw [h2]; rfl
    rw [w] at hx
    simp only [if_pos h2]
    rw [hx 0 (by omega), hx 1 (by omega), hx 2 (by omega), hx 3 (by omega), hx 4 (by omega), hx 5 (by omega)]
    obtain ⟨y1, y2⟩ := c_addG (n := n) hv ha hP
    by_cases o : okG π a
    · obtain ⟨K, z1, z2, z3⟩ := y1 o
      simp only [z1, if_pos o, or_true, if_true]
      exact ⟨fun h => (by cases h), fun π' h => (by cases h; exact ⟨K, rfl, z2, z3⟩)⟩
    · simp only [y2 o, if_neg o, true_or, if_true]
      exact ⟨fun _ => trivial, fun _ h => (by cases h)⟩
  simp only [if_neg h2]
  by_cases h3 : c = 112
  · have w : wn c = 2 := by rw [h3]; rfl
    rw [w] at hx
    simp only [if_pos h3]
    rw [hx 0 (by omega), hx 1 (by omega)]
    obtain ⟨y1, y2⟩ := c_addP (n := n) hv ha hP
    by_cases o : okP π a
    · obtain ⟨K, z1, z2, z3⟩ := y1 o
      simp only [z1, if_pos o, or_true, if_true]
      exact ⟨fun h => (by cases h), fun π' h => (by cases h; exact ⟨K, rfl, z2, z3⟩)⟩
    · simp only [y2 o, if_neg o, true_or, if_true]
      exact ⟨fun _ => trivial, fun _ h => (by cases h)⟩
  simp only [if_neg h3]
  by_cases h4 : c = 114
  · have w : wn c = 2 := by rw [h4]; rfl
    rw [w] at hx
    simp only [if_pos h4]
    rw [hx 0 (by omega), hx 1 (by omega)]
    obtain ⟨y1, y2⟩ := c_addR (n := n) (π := π) ha hP
    by_cases o : okR a
    · obtain ⟨K, z1, z2, z3⟩ := y1 o
      simp only [z1, if_pos o, or_true, if_true]
      exact ⟨fun h => (by cases h), fun π' h => (by cases h; exact ⟨K, rfl, z2, z3⟩)⟩
    · simp only [y2 o, if_neg o, true_or, if_true]
      exact ⟨fun _ => trivial, fun _ h => (by cases h)⟩
  simp only [if_neg h4]
  by_cases h5 : c = 121
  · have w : wn c = 2 := by rw [h5]; rfl
    rw [w] at hx
    simp only [if_pos h5]
    rw [hx 0 (by omega), hx 1 (by omega)]
    obtain ⟨y1, y2⟩ := c_addT (n := n) hv ha hP
    by_cases o : okT π a
    · obtain ⟨K, z1, z2, z3⟩ := y1 o
      simp only [z1, if_pos o, or_true, if_true]
      exact ⟨fun h => (by cases h), fun π' h => (by cases h; exact ⟨K, rfl, z2, z3⟩)⟩
    · simp only [y2 o, if_neg o, true_or, if_true]
      exact ⟨fun _ => trivial, fun _ h => (by cases h)⟩
  simp only [if_neg h5, true_or, if_true]
  exact ⟨fun _ => trivial, fun _ h => (by cases h)⟩
/-- an item at pos -/
def itm (T : Nat → Nat) (pos : Nat) (π : Pln) : Option (Nat × Pln) :=
  if wn (T pos) = 0 then none else
  match nms T (wn (T pos)) 0 (pos + 1) (fun _ => 0) with
  | none => none
  | some w => (match ad (T pos) π w.2 with
    | none => none
    | some π' => some (w.1, π'))
theorem itm_p {T : Nat → Nat} {len : Nat} (hT : TXT T len) {pos pos' : Nat} {π π' : Pln} (h : itm T pos π = some (pos', π')) (hp : pos < len) (hv : PVd π) : pos < pos' ∧ pos' ≤ len ∧ PVd π' := by
  unfold itm at h
  split at h
  · cases h
  · split at h
    next => cases h
    next w hw =>
      obtain ⟨p1, a⟩ := w
      obtain ⟨q1, q2, q3⟩ := nms_p hT _ _ _ _ _ _ hw (by omega) (fun _ => Nat.zero_le _)
      dsimp only at h
      split at h
      next => cases h
      next π2 hd =>
        cases h
        exact ⟨by omega, q2, ad_PV hv q3 hd⟩
def frT (q : Nat) (J I' : IH) : Prop := ∀ id, id ≠ 3 → id ≠ 4 → (id < q ∨ q + 12 < id) → I' id = J id
theorem frT_t {q : Nat} {I J K : IH} (h1 : frT q I J) (h2 : frT q J K) : frT q I K := fun id a b c => (h2 id a b c).trans (h1 id a b c)
theorem fr34_T {q : Nat} {I J : IH} (h : fr34 I J) : frT q I J := fun id a b _ => h id a b
theorem frC_T {q : Nat} {I J : IH} (h : frC q I J) : frT q I J := fun id _ _ c => h id c
theorem frT_x {q : Nat} (hq : 5 ≤ q) {I J : IH} (h : frT q I J) {T : Nat → Nat} {len : Nat} (hx : TxC I T len) : TxC J T len := by
  obtain ⟨a, b⟩ := hx
  exact ⟨by rw [h _ (by omega) (by omega) (by omega)]; exact a, fun j hj => by rw [h _ (by omega) (by omega) (by omega)]; exact b j hj⟩
theorem c_item {T : Nat → Nat} {len q n pos : Nat} (hT : TXT T len) (hq : 5 ≤ q) {J : IH} {π : Pln} (hX : TxC J T len) (hp : pos < len) (hn : 30 < n) (hJ : J 3 1 = nI pos) (hv : PVd π) (hP : PlC J q π) :
    (itm T pos π = none → ∃ I', g_X3_readItem n q J = some (0, I') ∧ frT q J I') ∧ ∀ pos' π', itm T pos π = some (pos', π') → ∃ I', g_X3_readItem n q J = some (1, I') ∧ I' 3 1 = nI pos' ∧ PlC I' q π' ∧ frT q J I' := by
  have h400 := hT.1
  have hb := hT.2.1 pos
  have hw := wn_le (T pos)
  simp only [g_X3_readItem, bnd_eq]
  rw [hJ, c_at hT hX (by omega)]
  dsimp only
  rw [ca_in hp, c_nof hb]
  dsimp only
  by_cases h0 : wn (T pos) = 0
  · have ei : itm T pos π = none := if_pos h0
    rw [h0, if_pos nI_0, ei]
    exact ⟨fun _ => ⟨J, rfl, fun _ _ _ _ => rfl⟩, fun _ _ h => (by cases h)⟩
  · rw [if_neg (nI_ne0 (by omega) (by omega)), hJ, nI_1]
    have fr1 : fr34 J (up2 J 3 1 (nI (pos + 1))) := fun id i1 _ => up2_i _ _ i1
    obtain ⟨n1, n2⟩ := c_nms (q := q) hT (v3 := nI (T pos)) (wn (T pos)) 0 n (pos + 1) (fun _ => 0) (up2 J 3 1 (nI (pos + 1))) (by omega) (by omega) (by omega) (fr34_x fr1 hX) (up2_s _ _ _ _) (fun j hj => absurd hj (Nat.not_lt_zero _))
    rw [Nat.zero_add] at n1 n2
    cases hN : nms T (wn (T pos)) 0 (pos + 1) (fun _ => 0) with
    | none =>
      have ei : itm T pos π = none := by unfold itm; rw [if_neg h0, hN]
      obtain ⟨I', x1, x2⟩ := n1 hN
      rw [show g_X3_readItem_35 q n (nI (T pos)) (nI (wn (T pos))) 0 (up2 J 3 1 (nI (pos + 1))) = _ from x1, ei]
      exact ⟨fun _ => ⟨I', rfl, fr34_T (fr34_t fr1 x2)⟩, fun _ _ h => (by cases h)⟩
    | some w =>
      obtain ⟨p1, a⟩ := w
      obtain ⟨n', J', x1, x2, x3, x4, x5⟩ := n2 p1 a hN
      obtain ⟨q1, q2, q3⟩ := nms_p hT _ _ _ _ _ _ hN (by omega) (fun _ => Nat.zero_le _)
      have fr2 := fr34_t fr1 x5
      have hP' : PlC J' q π := PlC_congr (fun j hj => fr2 _ (by omega) (by omega)) hP
      obtain ⟨A1, A2⟩ := c_add (n := n') hb hv q3 hP' x4
      rw [show g_X3_readItem_35 q n (nI (T pos)) (nI (wn (T pos))) 0 (up2 J 3 1 (nI (pos + 1))) = _ from x1]
      cases hA : ad (T pos) π a with
      | none =>
        have ei : itm T pos π = none := by unfold itm; rw [if_neg h0, hN]; dsimp only; rw [hA]
        rw [A1 hA, ei]
        exact ⟨fun _ => ⟨J', rfl, fr34_T fr2⟩, fun _ _ h => (by cases h)⟩
      | some π2 =>
        have ei : itm T pos π = some (p1, π2) := by unfold itm; rw [if_neg h0, hN]; dsimp only; rw [hA]
        obtain ⟨K, z1, z2, z3⟩ := A2 π2 hA
        rw [z1, ei]
        refine ⟨fun h => (by cases h), fun pos' π' h => ?_⟩
        cases h
        exact ⟨K, rfl, by rw [z3 3 (by omega)]; exact x3, z2, frT_t (fr34_T fr2) (frC_T z3)⟩
/-- the whole text: the place of the first fault, or none; what is told -/
def rdA (T : Nat → Nat) (len : Nat) : Nat → Nat → Pln → Option Nat × Pln
  | 0, _, π => (none, π)
  | f + 1, pos, π => if len ≤ pos then (none, π) else (match itm T pos π with
    | none => (some pos, π)
    | some w => rdA T len f w.1 w.2)
def rrI : Option Nat → Int32
  | none => -4
  | some p => nI p
theorem rdA_p {T : Nat → Nat} {len : Nat} (hT : TXT T len) : ∀ (f pos : Nat) (π : Pln), PVd π → PVd (rdA T len f pos π).2 ∧ ∀ x, (rdA T len f pos π).1 = some x → x < len := by
  intro f
  induction f with
  | zero => intro pos π hv; exact ⟨hv, fun x h => (by cases h)⟩
  | succ f ih =>
    intro pos π hv
    by_cases c : len ≤ pos
    · have e : rdA T len (f + 1) pos π = (none, π) := if_pos c
      rw [e]
      exact ⟨hv, fun x h => (by cases h)⟩
    · cases hi : itm T pos π with
      | none =>
        have e : rdA T len (f + 1) pos π = (some pos, π) := by
          show (if len ≤ pos then _ else _) = _
          rw [if_neg c, hi]
        rw [e]
        refine ⟨hv, fun x h => ?_⟩
        cases h
        omega
      | some w =>
        obtain ⟨p1, π1⟩ := w
        have e : rdA T len (f + 1) pos π = rdA T len f p1 π1 := by
          show (if len ≤ pos then _ else _) = _
          rw [if_neg c, hi]
        rw [e]
        exact ih p1 π1 (itm_p hT hi (by omega) hv).2.2
theorem c_read_loop {T : Nat → Nat} {len q : Nat} (hT : TXT T len) (hq : 5 ≤ q) :
    ∀ (f it pos n : Nat) (J : IH) (π : Pln), it + f = 400 → f + 40 < n → pos ≤ len → TxC J T len → J 3 1 = nI pos → PVd π → PlC J q π →
    ∃ I', g_X3_readText_11 q n (nI it) J = some (rrI (rdA T len f pos π).1, I') ∧ ((rdA T len f pos π).1 = none → PlC I' q (rdA T len f pos π).2) ∧ frT q J I' := by
  have h400 := hT.1
  intro f
  induction f with
  | zero =>
    intro it pos n J π hi hn hp hX hJ hv hP
    obtain ⟨n, rfl⟩ : ∃ k, n = k + 1 := ⟨n - 1, by omega⟩
    simp only [g_X3_readText_11]
    rw [if_pos (by rw [show (400 : Int32) = nI 400 from rfl]; exact nI_le (by omega) (by omega))]
    exact ⟨J, rfl, fun _ => hP, fun _ _ _ _ => rfl⟩
  | succ f ih =>
    intro it pos n J π hi hn hp hX hJ hv hP
    obtain ⟨n, rfl⟩ : ∃ k, n = k + 1 := ⟨n - 1, by omega⟩
    simp only [g_X3_readText_11, bnd_eq]
    rw [if_neg (by rw [show (400 : Int32) = nI 400 from rfl]; exact nI_ge (by omega) (by omega)), hX.1, hJ]
    by_cases c : len ≤ pos
    · have e : rdA T len (f + 1) pos π = (none, π) := if_pos c
      rw [e, if_pos (nI_le c (by omega))]
      exact ⟨J, rfl, fun _ => hP, fun _ _ _ _ => rfl⟩
    · rw [if_neg (nI_ge (by omega) (by omega))]
      obtain ⟨A1, A2⟩ := c_item (n := n) hT hq hX (by omega) (by omega) hJ hv hP
      cases hi2 : itm T pos π with
      | none =>
        have e : rdA T len (f + 1) pos π = (some pos, π) := by
          show (if len ≤ pos then _ else _) = _
          rw [if_neg c, hi2]
        obtain ⟨I', x1, x2⟩ := A1 hi2
        rw [x1, e]
        dsimp only
        rw [if_pos rfl]
        exact ⟨I', rfl, fun h => (by cases h), x2⟩
      | some w =>
        obtain ⟨p1, π1⟩ := w
        have e : rdA T len (f + 1) pos π = rdA T len f p1 π1 := by
          show (if len ≤ pos then _ else _) = _
          rw [if_neg c, hi2]
        obtain ⟨I', x1, x2, x3, x4⟩ := A2 p1 π1 hi2
        obtain ⟨y1, y2, y3⟩ := itm_p hT hi2 (by omega) hv
        obtain ⟨K, z1, z2, z3⟩ := ih (it + 1) p1 n I' π1 (by omega) (by omega) y2 (frT_x hq x4 hX) x2 y3 x3
        rw [x1, e]
        dsimp only
        rw [if_neg (by decide), nI_1]
        exact ⟨K, z1, z2, frT_t x4 z3⟩
theorem PVd_0 : PVd (fun _ _ => 0) := ⟨Nat.zero_le _, fun i hi => absurd hi (Nat.not_lt_zero _), Nat.zero_le _, fun i hi => absurd hi (Nat.not_lt_zero _), Nat.zero_le _, fun i hi => absurd hi (Nat.not_lt_zero _), Nat.zero_le _, Nat.zero_le _⟩
theorem c_read {T : Nat → Nat} {len q n : Nat} (hT : TXT T len) (hq : 5 ≤ q) (hn : 500 ≤ n) {I : IH} (hX : TxC I T len) :
    ∃ I', g_X3_readText n q I = some (rrI (rdA T len 400 0 (fun _ _ => 0)).1, I') ∧ ((rdA T len 400 0 (fun _ _ => 0)).1 = none → PlC I' q (rdA T len 400 0 (fun _ _ => 0)).2) ∧ frT q I I' := by
  simp only [g_X3_readText, g_X2_clear, bnd_eq]
  have hq3 : q ≠ 3 := by omega
  have fr : frT q I (up2 (up2 (up2 (up2 (up2 (up2 I q 0 0) q 8 0) q 11 0) q 15 0) q 16 0) 3 1 0) := fun id i1 i2 i3 => by
    rw [up2_i _ _ i1, up2_i _ _ (by omega), up2_i _ _ (by omega), up2_i _ _ (by omega), up2_i _ _ (by omega), up2_i _ _ (by omega)]
  have eq : ∀ j, (up2 (up2 (up2 (up2 (up2 (up2 I q 0 0) q 8 0) q 11 0) q 15 0) q 16 0) 3 1 0) q j = if j = 16 then 0 else if j = 15 then 0 else if j = 11 then 0 else if j = 8 then 0 else if j = 0 then 0 else I q j := fun j => by
    rw [up2_i _ _ hq3]
    simp [up2]
  obtain ⟨K, z1, z2, z3⟩ := c_read_loop hT hq 400 0 0 n _ (fun _ _ => 0) (by omega) (by omega) (Nat.zero_le _) (frT_x hq fr hX) (up2_s _ 3 1 0) PVd_0
    ⟨by rw [eq]; rfl, fun i hi => absurd hi (Nat.not_lt_zero _), by rw [eq]; rfl, by rw [eq]; rfl, fun i hi => absurd hi (Nat.not_lt_zero _), by rw [eq]; rfl, by rw [eq]; rfl⟩
  exact ⟨K, z1, z2, frT_t fr z3⟩
