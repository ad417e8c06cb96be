/-! the reference's items, one behind the other; fault -/
def bl01 (g : Option (Int32 × IH)) : Option (Int32 × IH) :=
  match g with
  | none => none
  | some (r, K) => if r = 0 ∨ r = 1 then some (r, K) else none
theorem if_ad {g : Option (Int32 × IH)} {J : IH} {o : Option Pln} {pos' : Nat} (hm : mEnd g J o pos') : mEnd (bl01 g) J o pos' := by
  obtain ⟨h1, h2⟩ := hm
  refine ⟨fun h => ?_, fun π' h => ?_⟩
  · obtain ⟨I', x1, x2⟩ := h1 h
    rw [x1]
    exact ⟨I', rfl, x2⟩
  · obtain ⟨I', x1, x2⟩ := h2 π' h
    rw [x1]
    exact ⟨I', rfl, x2⟩
theorem mEnd_0 {g : Option (Int32 × IH)} {J : IH} {pos' : Nat} (h : ∃ I', g = some (0, I') ∧ frR J I') : mEnd g J none pos' := ⟨fun _ => h, fun _ h => (by cases h)⟩
/-- what is due behind the letter: g's end by the numbers and by what they add -/
def mDue (T : Nat → Nat) (w pos : Nat) (g : Option (Int32 × IH)) (J : IH) (o : (Nat → Nat) → Option Pln) : Prop := (nms T w 0 pos (fun _ => 0) = none → ∃ I', g = some (0, I') ∧ frR J I') ∧ ∀ pos' a, nms T w 0 pos (fun _ => 0) = some (pos', a) → mEnd g J (o a) pos'
theorem mD_glass {T : Nat → Nat} {len : Nat} (hT : TXT T len) {n pos : Nat} {J : IH} {π : Pln} (hp : pos ≤ len) (hn : 20 < n) (hX : TxM J T len) (hJ : J 55 27 = nI pos) (hv : PVd π) (hP : PlM J 1 π) : mDue T 6 pos (g_X9_glassItem n J) J (fun a => if okG π a then some (adG π a) else none) := by
  refine ⟨fun h => ?_, fun pos' a h => m_glass hT hp hn hX hJ hv hP h⟩
  obtain ⟨I', x1, x2⟩ := (m_figs hT (by omega) hp hn hX hJ).1 h
  simp only [g_X9_glassItem, bnd_eq]
  rw [show g_X9_figures n 6 J = _ from x1]
  exact ⟨I', rfl, frN_R x2⟩
theorem mD_tie {T : Nat → Nat} {len : Nat} (hT : TXT T len) {n pos : Nat} {J : IH} {π : Pln} (hp : pos ≤ len) (hn : 20 < n) (hX : TxM J T len) (hJ : J 55 27 = nI pos) (hv : PVd π) (hP : PlM J 1 π) : mDue T 2 pos (g_X9_tieItem n J) J (fun a => if okT π a then some (adT π a) else none) := by
  refine ⟨fun h => ?_, fun pos' a h => m_tie hT hp hn hX hJ hv hP h⟩
  obtain ⟨I', x1, x2⟩ := (m_figs hT (by omega) hp hn hX hJ).1 h
  simp only [g_X9_tieItem, bnd_eq]
  rw [show g_X9_figures n 2 J = _ from x1]
  exact ⟨I', rfl, frN_R x2⟩
theorem mD_clerk {T : Nat → Nat} {len : Nat} (hT : TXT T len) {n pos : Nat} {J : IH} {π : Pln} (hp : pos ≤ len) (hn : 20 < n) (hX : TxM J T len) (hJ : J 55 27 = nI pos) (hv : PVd π) (hP : PlM J 1 π) : mDue T 3 pos (g_X9_clerkItem n J) J (fun a => if okC π a then some (adC π a) else none) := by
  refine ⟨fun h => ?_, fun pos' a h => m_clerk hT hp hn hX hJ hv hP h⟩
  obtain ⟨I', x1, x2⟩ := (m_figs hT (by omega) hp hn hX hJ).1 h
  simp only [g_X9_clerkItem, bnd_eq]
  rw [show g_X9_figures n 3 J = _ from x1]
  exact ⟨I', rfl, frN_R x2⟩
/-- p and r, as they stand in item -/
def gPart (n : Nat) (J5 : IH) : Option (Int32 × IH) :=
      match g_X9_figures n 2 J5 with
      | none => none
      | some (r22, J21) =>
        if r22 = 0 then
          some (0, J21)
        else
          if J21 57 1 ≤ J21 80 0 then
            some (0, J21)
          else
            if J21 80 1 ≤ 5 then
              if inB (8 + J21 80 0) 16 = true then
                some (1, up2 J21 64 (Int32.toNatClampNeg (8 + J21 80 0)) (J21 80 1))
              else none
            else
              some (0, J21)
def gRisk (n : Nat) (J5 : IH) : Option (Int32 × IH) :=
      match g_X9_figures n 2 J5 with
      | none => none
      | some (r37, J36) =>
        if r37 = 0 then
          some (0, J36)
        else
          if 99 < J36 80 0 then
            some (0, J36)
          else
            if J36 80 1 ≤ 99 then
              some (1, up2 (up2 J36 72 1 (J36 80 0)) 73 1 ((up2 J36 72 1 (J36 80 0)) 80 1))
            else
              some (0, J36)
theorem mD_part {T : Nat → Nat} {len : Nat} (hT : TXT T len) {n pos : Nat} {J : IH} {π : Pln} (hp : pos ≤ len) (hn : 20 < n) (hX : TxM J T len) (hJ : J 55 27 = nI pos) (hv : PVd π) (hP : PlM J 1 π) : mDue T 2 pos (gPart n J) J (fun a => if okP π a then some (adP π a) else none) := by
  have v1 := hv.1
  refine ⟨fun h => ?_, fun pos' a h => ?_⟩
  · obtain ⟨I', x1, x2⟩ := (m_figs hT (by omega) hp hn hX hJ).1 h
    unfold gPart
    rw [show g_X9_figures n 2 J = _ from x1]
    exact ⟨I', rfl, frN_R x2⟩
  · obtain ⟨-, -, ha⟩ := nms_p hT 2 0 pos (fun _ => 0) pos' a h hp (fun _ => Nat.zero_le _)
    have a0 := ha 0
    have a1 := ha 1
    obtain ⟨K, k1, k2, k3, k4⟩ := (m_figs hT (by omega) hp hn hX hJ).2 pos' a h
    have kR := frN_R k4
    have hP' := frN_P k4 hP
    have hne : ¬ okP π a → mEnd (some (0, K)) J (if okP π a then some (adP π a) else none) pos' := fun h => by
      rw [if_neg h]
      exact mEnd_0 ⟨K, rfl, kR⟩
    unfold gPart
    rw [show g_X9_figures n 2 J = some (1, K) from k1]
    dsimp only
    rw [if_neg (by decide), hP'.1, k3 0 (by omega), k3 1 (by omega)]
    by_cases c2 : a 0 < π 0 0
    case neg => rw [if_pos (nI_le (by omega) (by omega))]; exact hne (fun h => c2 h.1)
    rw [if_neg (nI_ge c2 (by omega))]
    by_cases c3 : a 1 ≤ 5
    case neg => rw [if_neg (fun x => c3 ((e5_c a1).mp x))]; exact hne (fun h => c3 h.2)
    rw [if_pos ((e5_c a1).mpr c3), if_pos (show okP π a from ⟨c2, c3⟩), li8, nI_add, inB_t (by omega : 8 + a 0 < 16) (by omega), if_pos rfl, nI_clamp (by omega)]
    refine ⟨fun h => (by cases h), fun π' h => ?_⟩
    cases h
    refine ⟨_, rfl, by rw [up2_i _ _ (by omega)]; exact k2, ?_, frR_t kR (up_R (by omega))⟩
    obtain ⟨p1, p2, p3, p4, p5, p6, p7, p8⟩ := hP'
    unfold PlM
    rw [adP_o (f := 0) (by omega), adP_o (f := 1) (by omega), adP_o (f := 2) (by omega), adP_o (f := 4) (by omega), adP_o (f := 5) (by omega), adP_o (f := 6) (by omega), adP_o (f := 7) (by omega), adP_o (f := 8) (by omega), adP_o (f := 9) (by omega), adP_o (f := 10) (by omega), adP_o (f := 11) (by omega), adP_o (f := 12) (by omega), adP_o (f := 13) (by omega), adP_o (f := 14) (by omega), adP_o (f := 15) (by omega), adP_o (f := 16) (by omega)]
    rw [up2_i K _ (by omega : 57 ≠ 64), up2_i K _ (by omega : 58 ≠ 64), up2_i K _ (by omega : 59 ≠ 64), up2_i K _ (by omega : 60 ≠ 64), up2_i K _ (by omega : 61 ≠ 64), up2_i K _ (by omega : 62 ≠ 64), up2_i K _ (by omega : 63 ≠ 64), up2_i K _ (by omega : 65 ≠ 64), up2_i K _ (by omega : 66 + 1 ≠ 64), up2_i K _ (by omega : 68 ≠ 64), up2_i K _ (by omega : 69 ≠ 64), up2_i K _ (by omega : 70 ≠ 64), up2_i K _ (by omega : 71 ≠ 64), up2_i K _ (by omega : 72 ≠ 64), up2_i K _ (by omega : 73 ≠ 64)]
    refine ⟨p1, fun i hi => ?_, p3, p4, p5, p6, p7, p8⟩
    obtain ⟨w1, w2, w3, w4⟩ := p2 i hi
    refine ⟨w1, w2, ?_, w4⟩
    rw [adP_3]
    by_cases c : i = a 0
    · rw [if_pos c, c, show 8 * 1 + a 0 = 8 + a 0 by omega, up2_s]
    · rw [if_neg c, up2_j _ _ (by omega)]
      exact w3
theorem mD_risk {T : Nat → Nat} {len : Nat} (hT : TXT T len) {n pos : Nat} {J : IH} {π : Pln} (hp : pos ≤ len) (hn : 20 < n) (hX : TxM J T len) (hJ : J 55 27 = nI pos) (hP : PlM J 1 π) : mDue T 2 pos (gRisk n J) J (fun a => if okR a then some (adR π a) else none) := by
  refine ⟨fun h => ?_, fun pos' a h => ?_⟩
  · obtain ⟨I', x1, x2⟩ := (m_figs hT (by omega) hp hn hX hJ).1 h
    unfold gRisk
    rw [show g_X9_figures n 2 J = _ from x1]
    exact ⟨I', rfl, frN_R x2⟩
  · obtain ⟨-, -, ha⟩ := nms_p hT 2 0 pos (fun _ => 0) pos' a h hp (fun _ => Nat.zero_le _)
    have a0 := ha 0
    have a1 := ha 1
    obtain ⟨K, k1, k2, k3, k4⟩ := (m_figs hT (by omega) hp hn hX hJ).2 pos' a h
    have kR := frN_R k4
    have hP' := frN_P k4 hP
    have hne : ¬ okR a → mEnd (some (0, K)) J (if okR a then some (adR π a) else none) pos' := fun h => by
      rw [if_neg h]
      exact mEnd_0 ⟨K, rfl, kR⟩
    unfold gRisk
    rw [show g_X9_figures n 2 J = some (1, K) from k1]
    dsimp only
    rw [if_neg (by decide), k3 0 (by omega), k3 1 (by omega)]
    by_cases c2 : a 0 ≤ 99
    case neg => rw [if_pos ((l99_c a0).mpr c2)]; exact hne (fun h => c2 h.1)
    rw [if_neg (fun x => (l99_c a0).mp x c2)]
    by_cases c3 : a 1 ≤ 99
    case neg => rw [if_neg (fun x => c3 ((e99_c a1).mp x))]; exact hne (fun h => c3 h.2)
    rw [if_pos ((e99_c a1).mpr c3), if_pos (show okR a from ⟨c2, c3⟩), up2_i K _ (by omega : 80 ≠ 72), k3 1 (by omega)]
    refine ⟨fun h => (by cases h), fun π' h => ?_⟩
    cases h
    refine ⟨_, rfl, by rw [up2_i _ _ (by omega), up2_i _ _ (by omega)]; exact k2, ?_, frR_t kR (frR_t (up_R (by omega)) (up_R (by omega)))⟩
    obtain ⟨p1, p2, p3, p4, p5, p6, p7, p8⟩ := hP'
    have o : ∀ id, id ≠ 72 → id ≠ 73 → up2 (up2 K 72 1 (nI (a 0))) 73 1 (nI (a 1)) id = K id := fun id h1 h2 => by rw [up2_i _ _ h2, up2_i _ _ h1]
    unfold PlM
    rw [adR_o (f := 0) (by omega), adR_o (f := 1) (by omega), adR_o (f := 2) (by omega), adR_o (f := 3) (by omega), adR_o (f := 4) (by omega), adR_o (f := 5) (by omega), adR_o (f := 6) (by omega), adR_o (f := 7) (by omega), adR_o (f := 8) (by omega), adR_o (f := 9) (by omega), adR_o (f := 10) (by omega), adR_o (f := 11) (by omega), adR_o (f := 12) (by omega), adR_o (f := 13) (by omega), adR_o (f := 14) (by omega), adR_15, adR_16, o 57 (by omega) (by omega), o 58 (by omega) (by omega), o 59 (by omega) (by omega), o 60 (by omega) (by omega), o 61 (by omega) (by omega), o 62 (by omega) (by omega), o 63 (by omega) (by omega), o 64 (by omega) (by omega), o 65 (by omega) (by omega), o (66 + 1) (by omega) (by omega), o 68 (by omega) (by omega), o 69 (by omega) (by omega), o 70 (by omega) (by omega), o 71 (by omega) (by omega)]
    exact ⟨p1, p2, p3, p4, p5, p6, by rw [up2_i _ _ (by omega), up2_s], up2_s _ _ _ _⟩
theorem g_item_eq {n : Nat} {J J5 : IH} {c : Nat} (hc : c < 256) (h1 : g_X9_byteAt n (J 55 27) J = some (nI c, J)) (h2 : J5 = up2 J 55 27 (J 55 27 + 1)) : g_X9_item n J = if c = 99 then bl01 (g_X9_clerkItem n J5) else if c = 103 then bl01 (g_X9_glassItem n J5) else if c = 112 then gPart n J5 else if c = 114 then gRisk n J5 else if c = 121 then bl01 (g_X9_tieItem n J5) else some (0, J5) := by
  have e : ∀ k : Nat, k < 256 → (nI c = nI k ↔ c = k) := fun k hk => nI_eq (by omega) (by omega)
  have e1 : (nI c = 99) ↔ c = 99 := e 99 (by omega)
  have e2 : (nI c = 103) ↔ c = 103 := e 103 (by omega)
  have e3 : (nI c = 112) ↔ c = 112 := e 112 (by omega)
  have e4 : (nI c = 114) ↔ c = 114 := e 114 (by omega)
  have e5 : (nI c = 121) ↔ c = 121 := e 121 (by omega)
  simp only [g_X9_item, bnd_eq, gPart, gRisk]
  rw [h1]
  simp only [e1, e2, e3, e4, e5, h2]
  rfl
theorem m_item {T : Nat → Nat} {len n pos : Nat} (hT : TXT T len) {J : IH} {π : Pln} (hX : TxM J T len) (hp : pos < len) (hn : 30 < n) (hJ : J 55 27 = nI pos) (hv : PVd π) (hP : PlM J 1 π) :
    (itm T pos π = none → ∃ I', g_X9_item n J = some (0, I') ∧ frR J I') ∧ ∀ pos' π', itm T pos π = some (pos', π') → ∃ I', g_X9_item n J = some (1, I') ∧ I' 55 27 = nI pos' ∧ PlM I' 1 π' ∧ frR J I' := by
  have h400 := hT.1
  have hb := hT.2.1 pos
  have fr1 : frN J (up2 J 55 27 (nI (pos + 1))) := frN_27 _ _
  have hX1 := frN_x fr1 hX
  have hP1 := frN_P fr1 hP
  have hJ1 : up2 J 55 27 (nI (pos + 1)) 55 27 = nI (pos + 1) := up2_s _ _ _ _
  have ge := g_item_eq (n := n) (J := J) (J5 := up2 J 55 27 (nI (pos + 1))) hb (by rw [hJ]; exact m_at hT hX (by omega)) (by rw [hJ, nI_1])
  rw [ge]
  have fin : ∀ (w : Nat) (g : Option (Int32 × IH)) (o : (Nat → Nat) → Option Pln), wn (T pos) = w → 1 ≤ w → (∀ a, ad (T pos) π a = o a) → mDue T w (pos + 1) g (up2 J 55 27 (nI (pos + 1))) o → (itm T pos π = none → ∃ I', g = some (0, I') ∧ frR J I') ∧ ∀ pos' π', itm T pos π = some (pos', π') → ∃ I', g = some (1, I') ∧ I' 55 27 = nI pos' ∧ PlM I' 1 π' ∧ frR J I' := by
    intro w g o hw hw1 ho hd
    obtain ⟨d1, d2⟩ := hd
    have h0 : ¬ wn (T pos) = 0 := by omega
    cases hN : nms T w 0 (pos + 1) (fun _ => 0) with
    | none =>
      have ei : itm T pos π = none := by unfold itm; rw [if_neg h0, hw, hN]
      obtain ⟨I', x1, x2⟩ := d1 hN
      rw [ei]
      exact ⟨fun _ => ⟨I', x1, frR_t (frN_R fr1) x2⟩, fun _ _ h => (by cases h)⟩
    | some v =>
      obtain ⟨p1, a⟩ := v
      obtain ⟨m1, m2⟩ := d2 p1 a hN
      rw [← ho a] at m1 m2
      cases hA : ad (T pos) π a with
      | none =>
        have ei : itm T pos π = none := by unfold itm; rw [if_neg h0, hw, hN]; dsimp only; rw [hA]
        obtain ⟨I', x1, x2⟩ := m1 hA
        rw [ei]
        exact ⟨fun _ => ⟨I', x1, frR_t (frN_R fr1) x2⟩, fun _ _ h => (by cases h)⟩
      | some π2 =>
        have ei : itm T pos π = some (p1, π2) := by unfold itm; rw [if_neg h0, hw, hN]; dsimp only; rw [hA]
        obtain ⟨I', x1, x2, x3, x4⟩ := m2 π2 hA
        rw [ei]
        refine ⟨fun h => (by cases h), fun pos' π' h => ?_⟩
        cases h
        exact ⟨I', x1, x2, x3, frR_t (frN_R fr1) x4⟩
  have lift : ∀ (w : Nat) (g : Option (Int32 × IH)) (o : (Nat → Nat) → Option Pln), mDue T w (pos + 1) g (up2 J 55 27 (nI (pos + 1))) o → mDue T w (pos + 1) (bl01 g) (up2 J 55 27 (nI (pos + 1))) o := by
    intro w g o hd
    refine ⟨fun h => ?_, fun pos' a h => if_ad (hd.2 pos' a h)⟩
    obtain ⟨I', x1, x2⟩ := hd.1 h
    rw [x1]
    exact ⟨I', rfl, x2⟩
  by_cases h1 : T pos = 99
  · rw [if_pos h1]
    exact fin 3 _ _ (by rw [h1]; rfl) (by omega) (fun a => by unfold ad; rw [if_pos h1]) (lift _ _ _ (mD_clerk hT (by omega) (by omega) hX1 hJ1 hv hP1))
  rw [if_neg h1]
  by_cases h2 : T pos = 103
  · rw [if_pos h2]
    exact fin 6 _ _ (by rw [h2]; rfl) (by omega) (fun a => by unfold ad; rw [if_neg h1, if_pos h2]) (lift _ _ _ (mD_glass hT (by omega) (by omega) hX1 hJ1 hv hP1))
  rw [if_neg h2]
  by_cases h3 : T pos = 112
  · rw [if_pos h3]
    exact fin 2 _ _ (by rw [h3]; rfl) (by omega) (fun a => by unfold ad; rw [if_neg h1, if_neg h2, if_pos h3]) (mD_part hT (by omega) (by omega) hX1 hJ1 hv hP1)
  rw [if_neg h3]
  by_cases h4 : T pos = 114
  · rw [if_pos h4]
    exact fin 2 _ _ (by rw [h4]; rfl) (by omega) (fun a => by unfold ad; rw [if_neg h1, if_neg h2, if_neg h3, if_pos h4]) (mD_risk hT (by omega) (by omega) hX1 hJ1 hP1)
  rw [if_neg h4]
  by_cases h5 : T pos = 121
  · rw [if_pos h5]
    exact fin 2 _ _ (by rw [h5]; rfl) (by omega) (fun a => by unfold ad; rw [if_neg h1, if_neg h2, if_neg h3, if_neg h4, if_pos h5]) (lift _ _ _ (mD_tie hT (by omega) (by omega) hX1 hJ1 hv hP1))
  rw [if_neg h5]
  have ei : itm T pos π = none := by
    unfold itm
    rw [if_pos]
    unfold wn
    rw [if_neg h1, if_neg h2, if_neg h3, if_neg h4, if_neg h5]
  rw [ei]
  exact ⟨fun _ => ⟨_, rfl, frN_R fr1⟩, fun _ _ h => (by cases h)⟩
theorem frR_x {I J : IH} (h : frR I J) {T : Nat → Nat} {len : Nat} (hx : TxM I T len) : TxM J T len := by
  obtain ⟨a, b⟩ := hx
  exact ⟨by rw [h.1 _ (by omega)]; exact a, fun j hj => by rw [h.2.2.2 _ (by omega) (by omega) (by omega) (by omega)]; exact b j hj⟩
theorem m_read_loop {T : Nat → Nat} {len : Nat} (hT : TXT T len) :
    ∀ (f pos n : Nat) (J : IH) (π : Pln), 400 ≤ pos + f → f + 40 < n → pos ≤ len → TxM J T len → J 55 27 = nI pos → PVd π → PlM J 1 π →
    ∃ I', g_X9_readAll_10 n J = some (rrI (rdA T len f pos π).1, I') ∧ ((rdA T len f pos π).1 = none → PlM I' 1 (rdA T len f pos π).2) ∧ frR J I' := by
  have h400 := hT.1
  intro f
  induction f with
  | zero =>
    intro pos n J π hi hn hp hX hJ hv hP
    obtain ⟨n, rfl⟩ : ∃ k, n = k + 1 := ⟨n - 1, by omega⟩
    simp only [g_X9_readAll_10]
    rw [hX.1, hJ, if_pos (nI_le (by omega) (by omega))]
    exact ⟨J, rfl, fun _ => hP, frN_R (frN_r _)⟩
  | succ f ih =>
    intro pos n J π hi hn hp hX hJ hv hP
    obtain ⟨n, rfl⟩ : ∃ k, n = k + 1 := ⟨n - 1, by omega⟩
    simp only [g_X9_readAll_10, bnd_eq]
    rw [hX.1, hJ]
    by_cases c : len ≤ pos
    · have e : rdA T len (f + 1) pos π = (none, π) := if_pos c
      rw [e, if_pos (nI_le c (by omega))]
      exact ⟨J, rfl, fun _ => hP, frN_R (frN_r _)⟩
    · rw [if_neg (nI_ge (by omega) (by omega))]
      obtain ⟨A1, A2⟩ := m_item (n := n) hT hX (by omega) (by omega) hJ hv hP
      cases hi2 : itm T pos π with
      | none =>
        have e : rdA T len (f + 1) pos π = (some pos, π) := by
          show (if len ≤ pos then _ else _) = _
          rw [if_neg c, hi2]
        obtain ⟨I', x1, x2⟩ := A1 hi2
        rw [x1, e]
        dsimp only
        rw [if_pos rfl]
        exact ⟨I', rfl, fun h => (by cases h), x2⟩
      | some w =>
        obtain ⟨p1, π1⟩ := w
        have e : rdA T len (f + 1) pos π = rdA T len f p1 π1 := by
          show (if len ≤ pos then _ else _) = _
          rw [if_neg c, hi2]
        obtain ⟨I', x1, x2, x3, x4⟩ := A2 p1 π1 hi2
        obtain ⟨y1, y2, y3⟩ := itm_p hT hi2 (by omega) hv
        obtain ⟨K, z1, z2, z3⟩ := ih p1 n I' π1 (by omega) (by omega) y2 (frR_x x4 hX) x2 y3 x3
        rw [x1, e]
        dsimp only
        rw [if_neg (by decide)]
        exact ⟨K, z1, z2, frR_t x4 z3⟩
theorem m_read {T : Nat → Nat} {len n : Nat} (hT : TXT T len) (hn : 500 ≤ n) {I : IH} (hX : TxM I T len) :
    ∃ I', g_X9_readAll n I = some (rrI (rdA T len 400 0 (fun _ _ => 0)).1, I') ∧ ((rdA T len 400 0 (fun _ _ => 0)).1 = none → PlM I' 1 (rdA T len 400 0 (fun _ _ => 0)).2) ∧ frR I I' := by
  have hb : inB (1 : Int32) 2 = true := inB_t (a := 1) (by omega) (by omega)
  have hc : Int32.toNatClampNeg 1 = 1 := nI_clamp (n := 1) (by omega)
  simp only [g_X9_readAll, g_X9_noShelf, bnd_eq, hb, hc, ↓reduceIte]
  have fr : frR I (up2 (up2 (up2 (up2 (up2 (up2 I 57 1 0) 65 1 0) 68 1 0) 72 1 0) 73 1 0) 55 27 0) := frR_t (frR_t (frR_t (frR_t (frR_t (up_R (by omega)) (up_R (by omega))) (up_R (by omega))) (up_R (by omega))) (up_R (by omega))) (frN_R (frN_27 _ _))
  obtain ⟨K, z1, z2, z3⟩ := m_read_loop hT 400 0 n _ (fun _ _ => 0) (by omega) (by omega) (Nat.zero_le _) (frR_x fr hX) (up2_s _ 55 27 0) PVd_0
    ⟨by simp [up2]; rfl, fun i hi => absurd hi (Nat.not_lt_zero _), by simp [up2]; rfl, fun i hi => absurd hi (Nat.not_lt_zero _), by simp [up2]; rfl, fun i hi => absurd hi (Nat.not_lt_zero _), by simp [up2]; rfl, by simp [up2]; rfl⟩
  exact ⟨K, z1, z2, frR_t fr z3⟩
/-- nothing that is kept between calls has changed by reading -/
theorem Inv_rd {p : Nat} {I J K : IH} (h : Inv p I) (h1 : frT (23 - p) I J) (h2 : frR J K) : Inv p K := by
  obtain ⟨hp, tx, hl, π, hv, pc, tu, pm, ⟨sa, U, m, sh, un⟩, z, ta, ti, ki⟩ := h
  have hG := hv.2.1
  have hC := hv.2.2.2.2.2.1
  have s : ∀ id, id ≤ 2 ∨ (p ≤ id ∧ id ≤ p + 12) ∨ (31 ≤ id ∧ id ≤ 54) ∨ id = 56 ∨ id = 66 ∨ (74 ≤ id ∧ id ≤ 79) → K id = I id := fun id hid => by
    rw [h2.2.2.2 id (by omega) (by omega) (by omega) (by omega), h1 id (by omega) (by omega) (by omega)]
  have s55 : ∀ j, j ≠ 27 → K 55 j = I 55 j := fun j hj => by rw [h2.1 j hj, h1 55 (by omega) (by omega) (by omega)]
  have s3 : ∀ id, 57 ≤ id → id ≤ 73 → id ≠ 67 → K id 0 = I id 0 := fun id a b c => by rw [h2.2.1 id a b c, h1 id (by omega) (by omega) (by omega)]
  have s4 : ∀ id j, (58 ≤ id ∧ id ≤ 64) ∨ (69 ≤ id ∧ id ≤ 71) → j < 8 → K id j = I id j := fun id j a b => by rw [h2.2.2.1 id j a b, h1 id (by omega) (by omega) (by omega)]
  have pm' : PlM K 0 π := by
    obtain ⟨p1, p2, p3, p4, p5, p6, p7, p8⟩ := pm
    refine ⟨by rw [s3 57 (by omega) (by omega) (by omega)]; exact p1, fun i hi => ?_, by rw [s3 65 (by omega) (by omega) (by omega)]; exact p3, fun k hk => ?_, by rw [s3 68 (by omega) (by omega) (by omega)]; exact p5, fun k hk => ?_, by rw [s3 72 (by omega) (by omega) (by omega)]; exact p7, by rw [s3 73 (by omega) (by omega) (by omega)]; exact p8⟩
    · rw [s4 58 _ (by omega) (by omega), s4 61 _ (by omega) (by omega), s4 64 _ (by omega) (by omega), s4 59 _ (by omega) (by omega), s4 60 _ (by omega) (by omega), s4 62 _ (by omega) (by omega), s4 63 _ (by omega) (by omega)]
      exact p2 i hi
    · rw [s (66 + 0) (by omega)]
      exact p4 k hk
    · rw [s4 69 _ (by omega) (by omega), s4 70 _ (by omega) (by omega), s4 71 _ (by omega) (by omega)]
      exact p6 k hk
  refine ⟨hp, TxI_congr (s _ (by omega)) (s _ (by omega)) (s55 _ (by omega)) (s _ (by omega)) tx, by rw [s55 _ (by omega)]; exact hl, π, hv, PlC_congr (fun j hj => s _ (by omega)) pc, fun x hx => by rw [s _ (by omega)]; exact tu x hx, pm', ⟨sa, U, m, ShI_congr hG (s _ (by omega)) (s _ (by omega)) (fun j _ h => by rw [s _ (by omega)]) (fun j _ h => by rw [s _ (by omega)]) (by rw [s _ (by omega)]) sh, UnI_congr (fun j _ _ => s _ (by omega)) (s _ (by omega)) (s55 _ (by omega)) un⟩, z, ta, TaI_congr (fun j _ _ => s _ (by omega)) (by rw [s _ (by omega)]) (fun j _ => by rw [s _ (by omega)]) ti, KpI_congr hG (by rw [s _ (by omega)]) (s55 _ (by omega)) (fun j _ _ => s _ (by omega)) (fun j _ => by rw [s _ (by omega)]) (fun j _ => by rw [s _ (by omega)]) (fun j hj => by rw [s _ (by omega)]) (fun j hj => by rw [s _ (by omega)]) (fun j hj => by rw [s _ (by omega)]) ki⟩
theorem o_fault : op_fault Inv := by
  intro p I h
  have h0 := h
  obtain ⟨hp, tx, -⟩ := h
  obtain ⟨T, len, hT, hC, hM⟩ := tx_ex tx
  obtain ⟨J, a1, a2, a3⟩ := c_read (q := 23 - p) (n := 500) hT (by omega) (by omega) hC
  obtain ⟨K, b1, b2, b3⟩ := m_read (n := 500) (I := J) hT (by omega) ⟨by rw [a3 _ (by omega) (by omega) (by omega)]; exact hM.1, fun j hj => by rw [a3 _ (by omega) (by omega) (by omega)]; exact hM.2 j hj⟩
  refine ⟨500, 500, rrI (rdA T len 400 0 (fun _ _ => 0)).1, J, K, ?_, ?_, Inv_rd h0 a3 b3⟩
  · simp only [g_X8_fault]
    rw [a1]
  · simp only [g_X9_fault]
    rw [b1]
