/-! later, empty, falls, late, gains. -/
theorem o_later : op_later Inv := by
  intro p I a0 a1 h
  have h0 := h
  obtain ⟨hp, tx, hl, π, hv, pc, tu, pm, ⟨sa, U, m, ⟨s1, s2, s3, s4, s5⟩, un⟩, z, ta, ti, ki⟩ := h
  have hG := hv.2.1
  have bad : ∀ (r : Int32), g_X8_later 0 p a0 a1 I = some (r, I) → g_X9_later 0 a0 a1 I = some (r, I) → ∃ (n1 n2 : Nat) (r : Int32) (I1 I2 : IH), g_X8_later n1 p a0 a1 I = some (r, I1) ∧ g_X9_later n2 a0 a1 I1 = some (r, I2) ∧ Inv p I2 := fun r q1 q2 => ⟨0, 0, r, I, I, q1, q2, h0⟩
  by_cases hc0 : 0 ≤ a0 ∧ a0 ≤ 20000
  case neg =>
    refine bad (-1) ?_ ?_
    · simp only [g_X8_later]
      rw [c_within]
      dsimp only
      rw [r01, if_neg hc0]
    · simp only [g_X9_later]
      rw [m_isLater]
      dsimp only
      rw [r01, if_neg hc0]
  by_cases hc1 : 0 ≤ a1 ∧ a1 ≤ 5
  case neg =>
    refine bad (-1) ?_ ?_
    · simp only [g_X8_later]
      rw [c_within]
      dsimp only
      rw [r01, if_pos hc0, c_isHand]
      dsimp only
      rw [r01, if_neg hc1]
    · simp only [g_X9_later]
      rw [m_isLater]
      dsimp only
      rw [r01, if_pos hc0, m_isHand]
      dsimp only
      rw [r01, if_neg hc1]
  obtain ⟨t, ht, rfl⟩ := rng_of (N := 20000) rfl (by omega) hc0
  obtain ⟨x, hx, rfl⟩ := rng_of (N := 5) rfl (by omega) hc1
  have hV := goS_V hv (lk := 99) (lb := 0) s1 (by omega : tot sa (π 0 0) ≤ 20000) (t := t) (m := m) (by omega)
  obtain ⟨J1, a1, a2, a3⟩ := c_look (n := t + 100) hp hv (t := t) (lk := 99) (lb := 0) (by omega) s1 (by omega) (by omega) nobody (by omega) pc tu s4
  have sm1 := Sm_33 hp a3
  have pm1 := Sm_PlM sm1 hv pm
  obtain ⟨J2, b1, b2, b3, b4, b5⟩ := m_run (n := t + 100) (I := J1) (t := t) (lk := 99) (lb := 0) hv (by omega) s1 (by omega) (by omega) (by omega) pm1 (by rw [a3 _ (by omega) (by omega), hl]; exact nobody4) (fun k h1 h2 => by omega) (ShM_congr hG (fun j _ _ => by rw [a3 _ (by omega) (by omega)]) (fun j _ _ => by rw [a3 _ (by omega) (by omega)]) (by rw [a3 _ (by omega) (by omega)]) s5)
  refine ⟨t + 100, t + 100, nI (hss π (goS π 99 0 sa U m t).1 x (π 0 0)), J1, J2, ?_, ?_, Inv_Sm h0 (Sm_trans sm1 (Sm_Bk hp b5))⟩
  · simp only [g_X8_later]
    rw [c_within]
    dsimp only
    rw [r01, if_pos hc0, c_isHand]
    dsimp only
    rw [r01, if_pos hc1, show g_X8_lookAhead (t + 100) p (nI t) (-1) 0 I = some J1 from a1]
    dsimp only
    rw [c_has (by omega) hv (PlC_congr (fun j hj => a3 _ (by omega) (by omega)) pc) a2 hV hx]
  · simp only [g_X9_later]
    rw [m_isLater]
    dsimp only
    rw [r01, if_pos hc0, m_isHand]
    dsimp only
    rw [r01, if_pos hc1, b1]
    dsimp only
    rw [show g_X9_hasOf (t + 100) 1 (nI x) J2 = _ from m_has (b := 1) (n := t + 100) (by omega) (by omega) hv (Bk_PlM b5 pm1) b2 hV hx]
theorem c_empty_loop {p : Nat} (hp : p = 5 ∨ p = 18) {π : Pln} (hv : PV π) {sa : Nat → Nat} {U m t : Nat} (hU : U < 256) (ht0 : tot sa (π 0 0) ≤ 20000) (hm : m + t ≤ 1100000) :
    ∀ (d k n : Nat) (J : IH), k + d = t → d + 30 < n → PlC J p π → TuC J p π → ShC J 33 (π 0 0) (goS π 99 0 sa U m k).1 (goS π 99 0 sa U m k).2 (m + k) →
    ∃ I', g_X8_empty_28 p n (nI t) (nI (em π 99 0 sa U m k)) (nI k) J = some (nI (em π 99 0 sa U m t), I') ∧ ∀ id, id ≠ 33 → id ≠ 34 → I' id = J id := by
  intro d
  induction d with
  | zero =>
    intro k n J hk hn hP hT hJ
    obtain ⟨n, rfl⟩ : ∃ k, n = k + 1 := ⟨n - 1, by omega⟩
    simp only [g_X8_empty_28]
    rw [if_pos (nI_le (by omega) (by omega))]
    have e : t = k := by omega
    subst e
    exact ⟨J, rfl, fun _ _ _ => rfl⟩
  | succ d ih =>
    intro k n J hk hn hP hT hJ
    obtain ⟨n, rfl⟩ : ∃ k, n = k + 1 := ⟨n - 1, by omega⟩
    have hV := goS_V hv (lk := 99) (lb := 0) hU ht0 (t := k) (m := m) (by omega)
    obtain ⟨J1, a1, a2, a3⟩ := c_clerks (n := n) (s := 33) (by omega) (by omega) hp hv hV.1 hV.2.1 nobody (by omega : 0 ≤ 99) hP hT hJ
    have hP1 : PlC J1 p π := PlC_congr (fun j hj => a3 _ (by omega)) hP
    have hV1 : ShV (π 0 0) (goS π 99 0 sa U m k).1 (clk π (m + k) 99 0 (goS π 99 0 sa U m k).2 (π 11 0)) (m + k) := ⟨clk_lt hv hV.1 _ (Nat.le_refl _), hV.2.1, hV.2.2⟩
    have c1 := c_standing (s := 33) (q := p) (n := n) (by omega) hv hP1.1 a2 hV1
    obtain ⟨J2, b1, b2, b3⟩ := c_fall (n := n) (s := 33) (by omega) hp (by omega) hv hP1 a2 hV1
    obtain ⟨I', k1, k2⟩ := ih (k + 1) n J2 (by omega) (by omega) (PlC_congr (fun j hj => b3 _ (by omega) (by omega)) hP1) (fun x hx => by rw [b3 _ (by omega) (by omega), a3 _ (by omega)]; exact hT x hx) b2
    have hst := stn_le (goS π 99 0 sa U m k).1 (clk π (m + k) 99 0 (goS π 99 0 sa U m k).2 (π 11 0)) (π 0 0)
    have hG8 := hv.2.1
    refine ⟨I', ?_, fun id h1 h2 => by rw [k2 id h1 h2, b3 id h1 h2, a3 id h1]⟩
    simp only [g_X8_empty_28, g_X8_empty_63, bnd_eq]
    rw [if_neg (nI_ge (by omega) (by omega)), show g_X5_letClerksTurn n 33 p (-1) 0 J = some J1 from a1]
    dsimp only
    rw [c1]
    dsimp only
    by_cases h0 : stn (goS π 99 0 sa U m k).1 (clk π (m + k) 99 0 (goS π 99 0 sa U m k).2 (π 11 0)) (π 0 0) = 0
    · rw [h0, if_pos (by decide), b1]
      dsimp only
      rw [nI_1, ← k1]
      congr 2
      simp only [em]
      rw [if_pos h0]
      rfl
    · rw [if_neg (by rw [li0]; exact nI_ge (by omega) (by omega)), b1]
      dsimp only
      rw [nI_1, nI_1, ← k1]
      congr 2
      simp only [em]
      rw [if_neg h0]
theorem o_empty : op_empty Inv := by
  intro p I a0 h
  have h0 := h
  obtain ⟨hp, tx, hl, π, hv, pc, tu, pm, ⟨sa, U, m, ⟨s1, s2, s3, s4, s5⟩, un⟩, z, ta, ti, ki⟩ := h
  have hG := hv.2.1
  by_cases hc0 : 0 ≤ a0 ∧ a0 ≤ 20000
  case neg =>
    refine ⟨0, 0, -1, I, I, ?_, ?_, h0⟩
    · simp only [g_X8_empty]
      rw [c_within]
      dsimp only
      rw [r01, if_neg hc0]
    · simp only [g_X9_empty]
      rw [m_isLater]
      dsimp only
      rw [r01, if_neg hc0]
  obtain ⟨t, ht, rfl⟩ := rng_of (N := 20000) rfl (by omega) hc0
  obtain ⟨K, c1, c2, c3⟩ := c_copy (n := t + 100) (s := 33) (o := 31) (by omega) (by omega) (by omega) hG s4
  obtain ⟨J1, a1, a3⟩ := c_empty_loop hp hv (U := U) (m := m) (t := t) s1 (by omega : tot sa (π 0 0) ≤ 20000) (by omega) t 0 (t + 100) K (by omega) (by omega) (PlC_congr (fun j hj => c3 _ (by omega) (by omega)) pc) (fun x hx => by rw [c3 _ (by omega) (by omega)]; exact tu x hx) c2
  have f1 : ∀ id, id ≠ 33 → id ≠ 34 → J1 id = I id := fun id h1 h2 => by rw [a3 id h1 h2, c3 id h1 h2]
  have sm1 := Sm_33 hp f1
  have pm1 := Sm_PlM sm1 hv pm
  obtain ⟨J2, b1, b2, b3, b4, b5⟩ := m_run (n := t + 100) (I := J1) (t := t) (lk := 99) (lb := 0) hv (by omega) s1 (by omega) (by omega) (by omega) pm1 (by rw [f1 _ (by omega) (by omega), hl]; exact nobody4) (fun k h1 h2 => by omega) (ShM_congr hG (fun j _ _ => by rw [f1 _ (by omega) (by omega)]) (fun j _ _ => by rw [f1 _ (by omega) (by omega)]) (by rw [f1 _ (by omega) (by omega)]) s5)
  refine ⟨t + 100, t + 100, nI (em π 99 0 sa U m t), J1, J2, ?_, ?_, Inv_Sm h0 (Sm_trans sm1 (Sm_Bk hp b5))⟩
  · simp only [g_X8_empty]
    rw [c_within]
    dsimp only
    rw [r01, if_pos hc0, c1]
    dsimp only
    exact a1
  · simp only [g_X9_empty]
    rw [m_isLater]
    dsimp only
    rw [r01, if_pos hc0, b1]
    dsimp only
    rw [b3]
theorem fal_flo {π : Pln} {m U : Nat} {sa : Nat → Nat} {G b : Nat} (hb : b < 2 * G) : sa b - fal π m U sa G b = flo π m U sa G b := by
  unfold fal flo
  rw [if_pos (by omega)]
  by_cases h : b % 2 = bU U (b / 2)
  · rw [if_pos h, if_pos ⟨by omega, h⟩]
    have : fln π m U sa (b / 2) ≤ sa b := by
      unfold fln
      rw [← h, show 2 * (b / 2) + b % 2 = b by omega]
      exact Nat.min_le_left _ _
    omega
  · rw [if_neg h, if_neg (by omega)]
    omega
theorem sub_pos {x y : Nat} (hx : x < 2 ^ 30) (hy : y < 2 ^ 30) : (if 0 < nI x - nI y then nI x - nI y else 0) = nI (x - y) := by
  by_cases h : y ≤ x
  · rw [pk_sub h]
    by_cases h1 : x - y = 0
    · rw [h1, if_neg (by decide)]; rfl
    · rw [if_pos (by rw [li0]; exact (nI_ltI (by omega) (by omega)).mpr (by omega))]
  · have e : (nI x - nI y).toInt = (x : Int) - (y + 0 : Nat) := by
      have := sub_nn (a := x) (b := y) (c := 0) hx (by omega)
      rw [show nI x - nI y - nI 0 = nI x - nI y from Int32.sub_zero _] at this
      exact this
    rw [if_neg, show x - y = 0 by omega]
    · rfl
    · rw [Int32.lt_iff_toInt_lt, e]
      show ¬ (0 : Int) < _
      omega
theorem c_falls_loop {p : Nat} (hp : p = 5 ∨ p = 18) {π : Pln} (hv : PV π) {sa : Nat → Nat} {U m t b : Nat} (hb : b < 2 * π 0 0) (hU : U < 256) (ht0 : tot sa (π 0 0) ≤ 20000) (hm : m + t ≤ 1100000) :
    ∀ (d k n : Nat) (J : IH), k + d = t → d + 30 < n → PlC J p π → TuC J p π → ShC J 33 (π 0 0) (goS π 99 0 sa U m k).1 (goS π 99 0 sa U m k).2 (m + k) →
    ∃ I', g_X8_falls_54 p n (nI t) (nI b) (nI (fls π 99 0 sa U m k b)) (nI k) J = some (nI (fls π 99 0 sa U m t b), I') ∧ ∀ id, id ≠ 33 → id ≠ 34 → I' id = J id := by
  have hG8 := hv.2.1
  intro d
  induction d with
  | zero =>
    intro k n J hk hn hP hT hJ
    obtain ⟨n, rfl⟩ : ∃ k, n = k + 1 := ⟨n - 1, by omega⟩
    simp only [g_X8_falls_54]
    rw [if_pos (nI_le (by omega) (by omega))]
    have e : t = k := by omega
    subst e
    exact ⟨J, rfl, fun _ _ _ => rfl⟩
  | succ d ih =>
    intro k n J hk hn hP hT hJ
    obtain ⟨n, rfl⟩ : ∃ k, n = k + 1 := ⟨n - 1, by omega⟩
    have hV := goS_V hv (lk := 99) (lb := 0) hU ht0 (t := k) (m := m) (by omega)
    have hV2 := goS_V hv (lk := 99) (lb := 0) hU ht0 (t := k + 1) (m := m) (by omega)
    obtain ⟨J2, b1, b2, b3⟩ := c_go (n := n) (s := 33) (t := 1) (lk := 99) (lb := 0) (by omega) hp hv (by omega) hV.1 (by rw [goS_tot]; exact ht0) (by omega) nobody (by omega) hP hT hJ
    have e2 : goS π 99 0 (goS π 99 0 sa U m k).1 (goS π 99 0 sa U m k).2 (m + k) 1 = goS π 99 0 sa U m (k + 1) := rfl
    rw [e2] at b2
    obtain ⟨I', k1, k2⟩ := ih (k + 1) n J2 (by omega) (by omega) (PlC_congr (fun j hj => b3 _ (by omega) (by omega)) hP) (fun x hx => by rw [b3 _ (by omega) (by omega)]; exact hT x hx) b2
    refine ⟨I', ?_, fun id h1 h2 => by rw [k2 id h1 h2, b3 id h1 h2]⟩
    have v1 := hV.2.2 b hb
    have v2 := hV2.2.2 b hb
    simp only [g_X8_falls_54, bnd_eq]
    rw [if_neg (nI_ge (by omega) (by omega)), inB_t (by omega : b < 16) (by omega), show g_X5_goOn n 33 p 1 (-1) 0 J = some J2 from b1]
    simp only [if_pos]
    rw [nI_clamp (by omega), hJ.2.2 b hb, b2.2.2 b hb, sub_pos (by omega) (by omega), nI_add, nI_1, ← k1]
    congr 2
    rw [show (goS π 99 0 sa U m (k + 1)).1 b = fal π (m + k) (clk π (m + k) 99 0 (goS π 99 0 sa U m k).2 (π 11 0)) (goS π 99 0 sa U m k).1 (π 0 0) b from rfl, fal_flo hb]
    rfl
theorem o_falls : op_falls Inv := by
  intro p I a0 a1 a2 h
  have h0 := h
  obtain ⟨hp, tx, hl, π, hv, pc, tu, pm, ⟨sa, U, m, ⟨s1, s2, s3, s4, s5⟩, un⟩, z, ta, ti, ki⟩ := h
  have hG := hv.2.1
  have bad : ∀ (r : Int32), g_X8_falls 0 p a0 a1 a2 I = some (r, I) → g_X9_falls 0 a0 a1 a2 I = some (r, I) → ∃ (n1 n2 : Nat) (r : Int32) (I1 I2 : IH), g_X8_falls n1 p a0 a1 a2 I = some (r, I1) ∧ g_X9_falls n2 a0 a1 a2 I1 = some (r, I2) ∧ Inv p I2 := fun r q1 q2 => ⟨0, 0, r, I, I, q1, q2, h0⟩
  by_cases hc0 : 0 ≤ a0 ∧ a0 ≤ 20000
  case neg =>
    refine bad (-1) ?_ ?_
    · simp only [g_X8_falls]
      rw [c_within]
      dsimp only
      rw [r01, if_neg hc0]
    · simp only [g_X9_falls]
      rw [m_isLater]
      dsimp only
      rw [r01, if_neg hc0]
  by_cases hc1 : 0 ≤ a1 ∧ a1 ≤ nI (π 0 0) - 1
  case neg =>
    refine bad (-1) ?_ ?_
    · simp only [g_X8_falls]
      rw [c_within]
      dsimp only
      rw [r01, if_pos hc0, c_isGlass, pc.1]
      dsimp only
      rw [r01, if_neg hc1]
    · simp only [g_X9_falls]
      rw [m_isLater]
      dsimp only
      rw [r01, if_pos hc0, m_isGlass, pm.1]
      dsimp only
      rw [r01, if_neg hc1]
  by_cases hc2 : 0 ≤ a2 ∧ a2 ≤ 1
  case neg =>
    refine bad (-1) ?_ ?_
    · simp only [g_X8_falls]
      rw [c_within]
      dsimp only
      rw [r01, if_pos hc0, c_isGlass, pc.1]
      dsimp only
      rw [r01, if_pos hc1, c_within]
      dsimp only
      rw [r01, if_neg hc2]
    · simp only [g_X9_falls]
      rw [m_isLater]
      dsimp only
      rw [r01, if_pos hc0, m_isGlass, pm.1]
      dsimp only
      rw [r01, if_pos hc1, in_01]
      dsimp only
      rw [r01, if_neg hc2]
  obtain ⟨t, ht, rfl⟩ := rng_of (N := 20000) rfl (by omega) hc0
  obtain ⟨x, hx, rfl⟩ := gl_of hv.1 hG hc1
  obtain ⟨s, hs, rfl⟩ := rng_of (N := 1) rfl (by omega) hc2
  obtain ⟨K, c1, c2, c3⟩ := c_copy (n := t + 100) (s := 33) (o := 31) (by omega) (by omega) (by omega) hG s4
  obtain ⟨J1, a1, a3⟩ := c_falls_loop hp hv (U := U) (m := m) (t := t) (b := 2 * x + s) (by omega) s1 (by omega : tot sa (π 0 0) ≤ 20000) (by omega) t 0 (t + 100) K (by omega) (by omega) (PlC_congr (fun j hj => c3 _ (by omega) (by omega)) pc) (fun x hx => by rw [c3 _ (by omega) (by omega)]; exact tu x hx) c2
  have f1 : ∀ id, id ≠ 33 → id ≠ 34 → J1 id = I id := fun id h1 h2 => by rw [a3 id h1 h2, c3 id h1 h2]
  have sm1 := Sm_33 hp f1
  have pm1 := Sm_PlM sm1 hv pm
  obtain ⟨J2, b1, b2, b3, b4, b5⟩ := m_run (n := t + 100) (I := J1) (t := t) (lk := 99) (lb := 0) hv (by omega) s1 (by omega) (by omega) (by omega) pm1 (by rw [f1 _ (by omega) (by omega), hl]; exact nobody4) (fun k h1 h2 => by omega) (ShM_congr hG (fun j _ _ => by rw [f1 _ (by omega) (by omega)]) (fun j _ _ => by rw [f1 _ (by omega) (by omega)]) (by rw [f1 _ (by omega) (by omega)]) s5)
  refine ⟨t + 100, t + 100, nI (fls π 99 0 sa U m t (2 * x + s)), J1, J2, ?_, ?_, Inv_Sm h0 (Sm_trans sm1 (Sm_Bk hp b5))⟩
  · simp only [g_X8_falls, bnd_eq]
    rw [c_within]
    dsimp only
    rw [r01, if_pos hc0, c_isGlass, pc.1]
    dsimp only
    rw [r01, if_pos hc1, c_within]
    dsimp only
    rw [r01, if_pos hc2, c1]
    dsimp only
    rw [li2, pk_mul, nI_add]
    exact a1
  · simp only [g_X9_falls, bnd_eq]
    rw [m_isLater]
    dsimp only
    rw [r01, if_pos hc0, m_isGlass, f1 _ (by omega) (by omega), pm.1]
    dsimp only
    rw [r01, if_pos hc1, in_01]
    dsimp only
    rw [r01, if_pos hc2, b1]
    dsimp only
    rw [li2, pk_mul, nI_add, inB_t (by omega : 2 * x + s < 16) (by omega), if_pos rfl, nI_clamp (by omega), b4 _ (by omega)]
