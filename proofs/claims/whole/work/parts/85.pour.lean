/-! pour, undo, counted. -/
theorem o_pour : op_pour Inv := by
  intro p I a0 a1 a2 a3 a4 h
  have h0 := h
  obtain ⟨hp, tx, hl, π, hv, pc, tu, pm, ⟨sa, U, m, sh, z1, e, un1, un2, un3, un4, un5⟩, z, ta, ti, ki⟩ := h
  have hG1 := hv.1
  have hG := hv.2.1
  have hV := ShI_V sh
  obtain ⟨s1, s2, s3, s4, s5⟩ := sh
  have bad : ∀ (r : Int32), g_X8_pour 0 p a0 a1 a2 a3 a4 I = some (r, I) → g_X9_pour 0 a0 a1 a2 a3 a4 I = some (r, I) → ∃ (n1 n2 : Nat) (r : Int32) (I1 I2 : IH), g_X8_pour n1 p a0 a1 a2 a3 a4 I = some (r, I1) ∧ g_X9_pour n2 a0 a1 a2 a3 a4 I1 = some (r, I2) ∧ Inv p I2 := fun r q1 q2 => ⟨0, 0, r, I, I, q1, q2, h0⟩
  by_cases hc0 : 0 ≤ a0 ∧ a0 ≤ nI (π 0 0) - 1
  case neg =>
    refine bad (-1) ?_ ?_
    · simp only [g_X8_pour]
      rw [c_isGlass, pc.1]
      dsimp only
      rw [r01, if_neg hc0]
    · simp only [g_X9_pour]
      rw [m_isGlass, pm.1]
      dsimp only
      rw [r01, if_neg hc0]
  by_cases hc1 : 0 ≤ a1 ∧ a1 ≤ 1
  case neg =>
    refine bad (-1) ?_ ?_
    · simp only [g_X8_pour]
      rw [c_isGlass, pc.1]
      dsimp only
      rw [r01, if_pos hc0, c_within]
      dsimp only
      rw [r01, if_neg hc1]
    · simp only [g_X9_pour]
      rw [m_isGlass, pm.1]
      dsimp only
      rw [r01, if_pos hc0, in_01]
      dsimp only
      rw [r01, if_neg hc1]
  by_cases hc2 : 0 ≤ a2 ∧ a2 ≤ nI (π 0 0) - 1
  case neg =>
    refine bad (-1) ?_ ?_
    · simp only [g_X8_pour]
      rw [c_isGlass, pc.1]
      dsimp only
      rw [r01, if_pos hc0, c_within]
      dsimp only
      rw [r01, if_pos hc1, c_isGlass, pc.1]
      dsimp only
      rw [r01, if_neg hc2]
    · simp only [g_X9_pour]
      rw [m_isGlass, pm.1]
      dsimp only
      rw [r01, if_pos hc0, in_01]
      dsimp only
      rw [r01, if_pos hc1, m_isGlass, pm.1]
      dsimp only
      rw [r01, if_neg hc2]
  by_cases hc3 : 0 ≤ a3 ∧ a3 ≤ 1
  case neg =>
    refine bad (-1) ?_ ?_
    · simp only [g_X8_pour]
      rw [c_isGlass, pc.1]
      dsimp only
      rw [r01, if_pos hc0, c_within]
      dsimp only
      rw [r01, if_pos hc1, c_isGlass, pc.1]
      dsimp only
      rw [r01, if_pos hc2, c_within]
      dsimp only
      rw [r01, if_neg hc3]
    · simp only [g_X9_pour]
      rw [m_isGlass, pm.1]
      dsimp only
      rw [r01, if_pos hc0, in_01]
      dsimp only
      rw [r01, if_pos hc1, m_isGlass, pm.1]
      dsimp only
      rw [r01, if_pos hc2, in_01]
      dsimp only
      rw [r01, if_neg hc3]
  by_cases hc4 : 1 ≤ a4 ∧ a4 ≤ 9999
  case neg =>
    refine bad (-1) ?_ ?_
    · simp only [g_X8_pour]
      rw [c_isGlass, pc.1]
      dsimp only
      rw [r01, if_pos hc0, c_within]
      dsimp only
      rw [r01, if_pos hc1, c_isGlass, pc.1]
      dsimp only
      rw [r01, if_pos hc2, c_within]
      dsimp only
      rw [r01, if_pos hc3, c_within]
      dsimp only
      rw [r01, if_neg hc4]
    · simp only [g_X9_pour]
      rw [m_isGlass, pm.1]
      dsimp only
      rw [r01, if_pos hc0, in_01]
      dsimp only
      rw [r01, if_pos hc1, m_isGlass, pm.1]
      dsimp only
      rw [r01, if_pos hc2, in_01]
      dsimp only
      rw [r01, if_pos hc3, in_19999]
      dsimp only
      rw [r01, if_neg hc4]
  obtain ⟨x, hx, rfl⟩ := gl_of hG1 hG hc0
  obtain ⟨s, hs, rfl⟩ := rng_of (N := 1) rfl (by omega) hc1
  obtain ⟨y, hy, rfl⟩ := gl_of hG1 hG hc2
  obtain ⟨r, hr, rfl⟩ := rng_of (N := 1) rfl (by omega) hc3
  obtain ⟨c, hc, hc', rfl⟩ := rng1_of (N := 9999) rfl (by omega) hc4
  have C : ∀ n, g_X8_pour n p (nI x) (nI s) (nI y) (nI r) (nI c) I = if nI (2 * x + s) = nI (2 * y + r) then some (-1, I) else if I 32 (2 * x + s) < nI c then some (-2, I) else if I 32 (2 * y + r) + nI c ≤ 9999 then (match g_X5_move n 31 (nI (2 * x + s)) (nI (2 * y + r)) (nI c) I with | none => none | some J37 => match g_X0_notePouring n (nI (2 * x + s)) (nI (2 * y + r)) (nI c) J37 with | none => none | some J40 => some (J40 32 (2 * y + r), J40)) else some (-2, I) := by
    intro n
    simp only [g_X8_pour, bnd_eq]
    rw [c_isGlass, pc.1]
    dsimp only
    rw [r01, if_pos hc0, c_within]
    dsimp only
    rw [r01, if_pos hc1, c_isGlass, pc.1]
    dsimp only
    rw [r01, if_pos hc2, c_within]
    dsimp only
    rw [r01, if_pos hc3, c_within]
    dsimp only
    rw [r01, if_pos hc4, li2, pk_mul, pk_mul, nI_add, nI_add, inB_t (by omega : 2 * x + s < 16) (by omega), inB_t (by omega : 2 * y + r < 16) (by omega), nI_clamp (by omega), nI_clamp (by omega)]
    simp only [if_pos]
    rfl
  have M : ∀ n (J : IH), J 57 0 = nI (π 0 0) → g_X9_pour n (nI x) (nI s) (nI y) (nI r) (nI c) J = if nI x = nI y then (if nI s = nI r then some (-1, J) else g_X9_pour_63 n (nI x) (nI s) (nI y) (nI r) (nI c) J) else g_X9_pour_63 n (nI x) (nI s) (nI y) (nI r) (nI c) J := by
    intro n J hJ
    simp only [g_X9_pour]
    rw [m_isGlass, hJ]
    dsimp only
    rw [r01, if_pos hc0, in_01]
    dsimp only
    rw [r01, if_pos hc1, m_isGlass, hJ]
    dsimp only
    rw [r01, if_pos hc2, in_01]
    dsimp only
    rw [r01, if_pos hc3, in_19999]
    dsimp only
    rw [r01, if_pos hc4]
  by_cases heq : 2 * x + s = 2 * y + r
  case pos =>
    have e1 : x = y := by omega
    have e2 : s = r := by omega
    refine bad (-1) ?_ ?_
    · rw [C, if_pos (by rw [heq])]
    · rw [M _ _ pm.1, if_pos (by rw [e1]), if_pos (by rw [e2])]
  have M2 : ∀ n (J : IH), J 57 0 = nI (π 0 0) → g_X9_pour n (nI x) (nI s) (nI y) (nI r) (nI c) J = g_X9_pour_63 n (nI x) (nI s) (nI y) (nI r) (nI c) J := by
    intro n J hJ
    rw [M n J hJ]
    by_cases e1 : x = y
    · rw [if_pos (by rw [e1]), if_neg (fun q => by have := (nI_eq (by omega) (by omega)).mp q; omega)]
    · rw [if_neg (fun q => e1 ((nI_eq (by omega) (by omega)).mp q))]
  obtain ⟨f, hf⟩ : ∃ f, f = 2 * x + s := ⟨_, rfl⟩
  obtain ⟨t, ht⟩ : ∃ t, t = 2 * y + r := ⟨_, rfl⟩
  have hf2 : f < 2 * π 0 0 := by omega
  have ht2 : t < 2 * π 0 0 := by omega
  have vf := hV.2.2 f hf2
  have vt := hV.2.2 t ht2
  have M3 : ∀ n (J : IH), g_X9_pour_63 n (nI x) (nI s) (nI y) (nI r) (nI c) J = if J 74 f < nI c then some (-2, J) else if J 74 t + nI c ≤ 9999 then (match g_X9_noteUndo n (nI f) (nI t) (nI c) (up2 (up2 J 74 f (J 74 f - nI c)) 74 t (up2 J 74 f (J 74 f - nI c) 74 t + nI c)) with | none => none | some J46 => some (J46 74 t, J46)) else some (-2, J) := by
    intro n J
    simp only [g_X9_pour_63, bnd_eq]
    rw [li2, pk_mul, pk_mul, nI_add, nI_add, ← hf, ← ht, inB_t (by omega : f < 64) (by omega), inB_t (by omega : t < 64) (by omega), nI_clamp (by omega), nI_clamp (by omega)]
    simp only [if_pos]
    rfl
  have s6 := s4.2.2
  have s7 := s5.2.2
  simp only [Nat.mul_zero, Nat.zero_add] at s7
  rw [← hf, ← ht] at C heq
  by_cases hlt : sa f < c
  case pos =>
    refine bad (-2) ?_ ?_
    · rw [C, if_neg (fun q => heq ((nI_eq (by omega) (by omega)).mp q)), s6 f hf2, if_pos ((nI_ltI (by omega) (by omega)).mpr hlt)]
    · rw [M2 _ _ pm.1, M3, s7 f hf2, if_pos ((nI_ltI (by omega) (by omega)).mpr hlt)]
  by_cases hle : sa t + c ≤ 9999
  case neg =>
    refine bad (-2) ?_ ?_
    · rw [C, if_neg (fun q => heq ((nI_eq (by omega) (by omega)).mp q)), s6 f hf2, if_neg (fun q => hlt ((nI_ltI (by omega) (by omega)).mp q)), s6 t ht2, nI_add, if_neg (by rw [show (9999 : Int32) = nI 9999 from rfl]; exact nI_ge (by omega) (by omega))]
    · rw [M2 _ _ pm.1, M3, s7 f hf2, if_neg (fun q => hlt ((nI_ltI (by omega) (by omega)).mp q)), s7 t ht2, nI_add, if_neg (by rw [show (9999 : Int32) = nI 9999 from rfl]; exact nI_ge (by omega) (by omega))]
  obtain ⟨J1, b1, b2, b3⟩ := c_move (n := 100) (f := t) (t := f) (c := c) hG (fun q => heq q.symm) ht2 hf2 (by omega) s4
  obtain ⟨J2, d1, d2, d3, ⟨d40, d41, d42, d43⟩, d5⟩ := c_notePour (n := 100) (z := z1) (by omega) (I := J1) un1 (by rw [b3 _ (by omega)]; exact un2) (nI f) (nI t) (nI c)
  have f2 : ∀ id, id ≠ 32 → (id < 35 ∨ 39 < id) → J2 id = I id := fun id h1 h2 => by rw [d5 id h2, b3 id h1]
  have e74 : J2 74 = I 74 := f2 _ (by omega) (by omega)
  obtain ⟨K, hK⟩ : ∃ K, K = up2 (up2 J2 74 f (nI (sa f - c))) 74 t (nI (sa t + c)) := ⟨_, rfl⟩
  have k74 : ∀ b, b < 2 * π 0 0 → K 74 b = nI (und (t, f, c) sa b) := by
    intro b hb
    rw [hK]
    unfold und
    dsimp only
    by_cases q1 : b = t
    · subst q1
      rw [up2_s, if_neg (by omega), if_pos rfl]
    · rw [up2_j _ _ q1]
      by_cases q2 : b = f
      · subst q2
        rw [up2_s, if_pos rfl]
      · rw [up2_j _ _ q2, if_neg q2, if_neg q1, e74]
        exact s7 b hb
  have k74' : ∀ j, 16 ≤ j → K 74 j = I 74 j := fun j hj => by rw [hK, up2_j _ _ (by omega), up2_j _ _ (by omega), e74]
  have kf : ∀ id, id ≠ 74 → K id = J2 id := fun id h1 => by rw [hK, up2_i _ _ h1, up2_i _ _ h1]
  obtain ⟨J4, g1, g2, g3, g4, g5, g6, g7, g8⟩ := m_note (n := 100) (z := z1) (by omega) (I := K) un1 (by rw [kf _ (by omega), f2 _ (by omega) (by omega)]; exact un3) (nI f) (nI t) (nI c)
  have st : und (t, f, c) sa t = sa t + c := by unfold und; dsimp only; rw [if_neg (by omega), if_pos rfl]
  refine ⟨100, 100, nI (sa t + c), J2, J4, ?_, ?_, ?_⟩
  · rw [C, if_neg (fun q => heq ((nI_eq (by omega) (by omega)).mp q)), s6 f hf2, if_neg (fun q => hlt ((nI_ltI (by omega) (by omega)).mp q)), s6 t ht2, nI_add, if_pos (by rw [show (9999 : Int32) = nI 9999 from rfl]; exact nI_le (by omega) (by omega)), b1]
    dsimp only
    rw [d1]
    dsimp only
    rw [d5 _ (by omega), b2.2.2 t ht2, st]
  · rw [M2 _ _ (by rw [f2 _ (by omega) (by omega)]; exact pm.1), M3, e74, s7 f hf2, if_neg (fun q => hlt ((nI_ltI (by omega) (by omega)).mp q)), s7 t ht2, nI_add, if_pos (by rw [show (9999 : Int32) = nI 9999 from rfl]; exact nI_le (by omega) (by omega)), pk_sub (by omega), up2_j _ _ (by omega), e74, s7 t ht2, nI_add, ← hK, g1]
    dsimp only
    rw [g8 _ (by omega) (by omega), k74 t ht2, st]
  · refine Inv_sh hp tx hl hv pc tu pm ti ki (fun id hid => by rw [g8 _ (by omega) (by omega), kf _ (by omega), f2 _ (by omega) (by omega)]) (fun j h1 h2 => by rw [g7 j h1, kf _ (by omega), f2 _ (by omega) (by omega)]) (fun j hj => by rw [g8 _ (by omega) (by omega), k74' j (by omega)]) (fun j hj => by rw [g8 _ (by omega) (by omega), kf _ (by omega), f2 _ (by omega) (by omega)]) (fun j hj => by rw [g8 _ (by omega) (by omega), kf _ (by omega), f2 _ (by omega) (by omega)]) ⟨und (t, f, c) sa, U, m, ⟨s1, s2, by rw [und_tot (fun q => heq q.symm) ht2 hf2 (by omega)]; exact s3, ?_, ?_⟩, z1 - dlt z1 + 1, ntd z1 e (f, t, c), ?_, ?_, ?_, ?_, ?_⟩
    · exact ShC_congr (by rw [g8 _ (by omega) (by omega), kf _ (by omega), d5 _ (by omega)]) (by rw [g8 _ (by omega) (by omega), kf _ (by omega), d5 _ (by omega)]) b2
    · refine ⟨by rw [g8 _ (by omega) (by omega), kf _ (by omega), f2 _ (by omega) (by omega)]; exact s5.1, fun i hi => by rw [g8 _ (by omega) (by omega), kf _ (by omega), f2 _ (by omega) (by omega)]; exact s5.2.1 i hi, fun b hb => ?_⟩
      rw [g8 _ (by omega) (by omega), Nat.mul_zero, Nat.zero_add]
      exact k74 b hb
    · unfold dlt; split <;> omega
    · rw [g8 _ (by omega) (by omega), kf _ (by omega)]; exact d2
    · exact g2
    · intro k hk
      unfold ntd
      by_cases hkz : k = z1 - dlt z1
      · rw [if_pos hkz, hkz]
        refine Or.inr ⟨hc, hc', hf2, ht2, heq, ?_, ?_, ?_, ?_, g4, g5, g6⟩
        · rw [g8 _ (by omega) (by omega), kf _ (by omega)]; exact d40
        · rw [g8 _ (by omega) (by omega), kf _ (by omega)]; exact d41
        · rw [g8 _ (by omega) (by omega), kf _ (by omega)]; exact d42
        · rw [g8 _ (by omega) (by omega), kf _ (by omega)]; exact d43
      · rw [if_neg hkz]
        refine UnE_mv (I := I) (fun id h1 h2 => ?_) (fun j hj => ?_) (un4 (k + dlt z1) (by omega))
        · rw [g8 _ (by omega) (by omega), kf _ (by omega), d3 id h1 h2 k (by omega), b3 _ (by omega)]
        · rw [g3 k j (by omega) hj, kf _ (by omega), f2 _ (by omega) (by omega)]
    · exact UV_ntd (by dsimp only; rw [st]; omega) (und_und heq (by omega)) un5
theorem o_undo : op_undo Inv := by
  intro p I h
  have h0 := h
  obtain ⟨hp, tx, hl, π, hv, pc, tu, pm, ⟨sa, U, m, sh, z1, e, un1, un2, un3, un4, un5⟩, z, ta, ti, ki⟩ := h
  have hG1 := hv.1
  have hG := hv.2.1
  have hV := ShI_V sh
  obtain ⟨s1, s2, s3, s4, s5⟩ := sh
  by_cases hz : z1 = 0
  · subst hz
    refine ⟨0, 0, -2, I, I, ?_, ?_, h0⟩
    · simp only [g_X8_undo]
      rw [un2, if_pos (by rfl)]
    · simp only [g_X9_undo]
      rw [un3, if_pos (by rfl)]
  obtain ⟨k, rfl⟩ : ∃ k, z1 = k + 1 := ⟨z1 - 1, by omega⟩
  obtain ⟨u1, u2⟩ := un5
  have nz : ¬ nI (k + 1) = 0 := by rw [li0]; exact fun q => by have := (nI_eq (by omega) (by omega)).mp q; omega
  have gt0 : (0 : Int32) < nI (k + 1) := by rw [li0]; exact (nI_ltI (by omega) (by omega)).mpr (by omega)
  have e1 : nI (k + 1) - 1 = nI k := by rw [li1, pk_sub (by omega), show k + 1 - 1 = k by omega]
  rcases un4 k (by omega) with ⟨q1, q2, q3, q4, q5⟩ | ⟨q1, q1', q2, q3, q4, q5, q6, q7, q8, q9, q10, q11⟩
  · have hcl := Nat.lt_of_lt_of_le (cl_lt hv q2) (pow_G hv)
    have hcl0 : cl π (e k).1 ≠ 0 := fun hq => by have := cl_self (π := π) (i := (e k).1); rw [hq, Nat.zero_testBit] at this; exact absurd this (by decide)
    obtain ⟨K, hK⟩ : ∃ K, K = up2 I 35 0 (nI k) := ⟨_, rfl⟩
    have kf : ∀ id, id ≠ 35 → K id = I id := fun id h1 => by rw [hK, up2_i _ _ h1]
    have k35 : K 35 0 = nI k := by rw [hK, up2_s]
    obtain ⟨J1, a1, a2, a3⟩ := c_flip (n := 100) (M := cl π (e k).1) (s := 31) (I := K) (ShC_congr (kf _ (by omega)) (kf _ (by omega)) s4)
    have f1 : ∀ id, id ≠ 35 → id ≠ 31 → J1 id = I id := fun id h1 h2 => by rw [a3 id h2, kf id h1]
    obtain ⟨L, hL⟩ : ∃ L, L = up2 J1 55 25 (nI k) := ⟨_, rfl⟩
    have lf : ∀ id, id ≠ 55 → L id = J1 id := fun id h1 => by rw [hL, up2_i _ _ h1]
    have l25 : L 55 25 = nI k := by rw [hL, up2_s]
    obtain ⟨J4, g1, g2, g3, g4⟩ := m_turn (n := 100) (k := 0) (i := (e k).1) (by omega) hv (PlM_congr (by omega) (fun j _ _ => by rw [lf _ (by omega), f1 _ (by omega) (by omega)]) pm) (by omega) q2 (I := L) (sa := sa) (U := U) (m := m) (ShM_congr hG (fun j _ _ => by rw [lf _ (by omega), f1 _ (by omega) (by omega)]) (fun j _ _ => by rw [lf _ (by omega), f1 _ (by omega) (by omega)]) (by rw [lf _ (by omega), f1 _ (by omega) (by omega)]) s5)
    refine ⟨100, 100, nI k, J1, J4, ?_, ?_, ?_⟩
    · simp only [g_X8_undo, g_X0_takeBack, bnd_eq]
      rw [un2, if_neg nz, if_pos gt0, e1, ← hK, k35, inB_t (by omega : k < 8) (by omega)]
      simp only [if_pos]
      rw [nI_clamp (by omega), kf _ (by omega), q3, if_neg (by rw [li0]; exact fun q => hcl0 ((nI_eq (by omega) (by omega)).mp q)), a1]
      dsimp only
      rw [a3 _ (by omega), k35]
    · simp only [g_X9_undo, bnd_eq]
      rw [f1 55 (by omega) (by omega), un3, if_neg nz, e1, ← hL, l25, li3, pk_mul, inB_t (by omega : 3 * k < 24) (by omega), if_pos rfl, nI_clamp (by omega), lf _ (by omega), f1 _ (by omega) (by omega), q4, if_neg (by decide), li1, nI_add, inB_t (by omega : 3 * k + 1 < 24) (by omega), if_pos rfl, nI_clamp (by omega), q5, show g_X9_turnOf 100 0 (nI (e k).1) L = _ from g1]
      dsimp only
      rw [g4 _ (by omega), l25]
    · refine Inv_sh hp tx hl hv pc tu pm ti ki (fun id hid => by rw [g4 _ (by omega), lf _ (by omega), f1 _ (by omega) (by omega)]) (fun j h1 h2 => by rw [g4 _ (by omega), hL, up2_j _ _ h1, f1 _ (by omega) (by omega)]) (fun j hj => by rw [g4 _ (by omega), lf _ (by omega), f1 _ (by omega) (by omega)]) (fun j hj => by rw [g3 j (by omega), lf _ (by omega), f1 _ (by omega) (by omega)]) (fun j hj => by rw [g4 _ (by omega), lf _ (by omega), f1 _ (by omega) (by omega)]) ⟨sa, U ^^^ cl π (e k).1, m, ⟨xor_lt s1 hcl, s2, s3, ?_, g2⟩, k, e, by omega, ?_, ?_, ?_, ?_⟩
      · exact ShC_congr (by rw [g4 _ (by omega), lf _ (by omega)]) (by rw [g4 _ (by omega), lf _ (by omega)]) a2
      · rw [g4 _ (by omega), lf _ (by omega), a3 _ (by omega)]; exact k35
      · rw [g4 _ (by omega)]; exact l25
      · intro j hj
        exact UnE_congr (by rw [g4 _ (by omega), lf _ (by omega), f1 _ (by omega) (by omega)]) (by rw [g4 _ (by omega), lf _ (by omega), f1 _ (by omega) (by omega)]) (by rw [g4 _ (by omega), lf _ (by omega), f1 _ (by omega) (by omega)]) (by rw [g4 _ (by omega), lf _ (by omega), f1 _ (by omega) (by omega)]) (fun i hi => by rw [g4 _ (by omega), lf _ (by omega), f1 _ (by omega) (by omega)]) (un4 j (by omega))
      · rw [und_0 q1] at u2; exact u2
  · obtain ⟨f, hf⟩ : ∃ f, f = (e k).1 := ⟨_, rfl⟩
    obtain ⟨t, ht⟩ : ∃ f, f = (e k).2.1 := ⟨_, rfl⟩
    obtain ⟨c, hc⟩ : ∃ f, f = (e k).2.2 := ⟨_, rfl⟩
    have hek : e k = (f, t, c) := by rw [hf, ht, hc]
    rw [hek] at u1 u2
    dsimp only at u1
    rw [← hf] at q2 q4 q6 q9
    rw [← ht] at q3 q4 q7 q10
    rw [← hc] at q1 q1' q8 q11
    have vt := hV.2.2 t q3
    have vf := hV.2.2 f q2
    obtain ⟨K, hK⟩ : ∃ K, K = up2 I 35 0 (nI k) := ⟨_, rfl⟩
    have kf : ∀ id, id ≠ 35 → K id = I id := fun id h1 => by rw [hK, up2_i _ _ h1]
    have k35 : K 35 0 = nI k := by rw [hK, up2_s]
    obtain ⟨J1, a1, a2, a3⟩ := c_move (n := 100) (f := f) (t := t) (c := c) (I := K) hG q4 q2 q3 u1 (ShC_congr (kf _ (by omega)) (kf _ (by omega)) s4)
    have f1 : ∀ id, id ≠ 35 → id ≠ 32 → J1 id = I id := fun id h1 h2 => by rw [a3 id h2, kf id h1]
    obtain ⟨L, hL⟩ : ∃ L, L = up2 J1 55 25 (nI k) := ⟨_, rfl⟩
    have lf : ∀ id, id ≠ 55 → L id = J1 id := fun id h1 => by rw [hL, up2_i _ _ h1]
    have l25 : L 55 25 = nI k := by rw [hL, up2_s]
    have l79 : L 79 = I 79 := by rw [lf _ (by omega), f1 _ (by omega) (by omega)]
    have l74 : L 74 = I 74 := by rw [lf _ (by omega), f1 _ (by omega) (by omega)]
    have s7 := s5.2.2
    simp only [Nat.mul_zero, Nat.zero_add] at s7
    obtain ⟨N, hN⟩ : ∃ N, N = up2 (up2 L 74 f (nI (sa f + c))) 74 t (nI (sa t - c)) := ⟨_, rfl⟩
    have n74 : ∀ b, b < 2 * π 0 0 → N 74 b = nI (und (f, t, c) sa b) := by
      intro b hb
      rw [hN]
      unfold und
      dsimp only
      by_cases w1 : b = t
      · subst w1
        rw [up2_s, if_pos rfl]
      · rw [up2_j _ _ w1, if_neg w1]
        by_cases w2 : b = f
        · subst w2
          rw [up2_s, if_pos rfl]
        · rw [up2_j _ _ w2, if_neg w2, l74]
          exact s7 b hb
    have nf : ∀ id, id ≠ 74 → N id = L id := fun id h1 => by rw [hN, up2_i _ _ h1, up2_i _ _ h1]
    refine ⟨100, 100, nI k, J1, N, ?_, ?_, ?_⟩
    · simp only [g_X8_undo, g_X0_takeBack, bnd_eq]
      rw [un2, if_neg nz, if_pos gt0, e1, ← hK, k35, inB_t (by omega : k < 8) (by omega)]
      simp only [if_pos]
      rw [nI_clamp (by omega), kf 36 (by omega), q5, if_pos rfl, kf 38 (by omega), kf 37 (by omega), kf 39 (by omega), q6, q7, q8, a1]
      dsimp only
      rw [a3 _ (by omega), k35]
    · simp only [g_X9_undo, bnd_eq]
      rw [f1 55 (by omega) (by omega), un3, if_neg nz, e1, ← hL, l25, li3, pk_mul, li1, li2, nI_add, nI_add, inB_t (by omega : 3 * k < 24) (by omega), inB_t (by omega : 3 * k + 1 < 24) (by omega), inB_t (by omega : 3 * k + 2 < 24) (by omega), nI_clamp (by omega), nI_clamp (by omega), nI_clamp (by omega)]
      simp only [if_pos]
      rw [l79, l74, q9, if_pos (by rw [li0]; exact nI_le (by omega) (by omega)), inB_t (by omega : f < 64) (by omega), nI_clamp (by omega), q11, s7 f q2, nI_add]
      simp only [if_pos]
      rw [up2_i (a := 79) _ _ (by omega), l79, q10, q11, inB_t (by omega : t < 64) (by omega), nI_clamp (by omega), up2_j _ _ (by omega), l74, s7 t q3, pk_sub u1]
      simp only [if_pos]
      rw [← hN, nf _ (by omega), l25]
    · refine Inv_sh hp tx hl hv pc tu pm ti ki (fun id hid => by rw [nf _ (by omega), lf _ (by omega), f1 _ (by omega) (by omega)]) (fun j h1 h2 => by rw [nf _ (by omega), hL, up2_j _ _ h1, f1 _ (by omega) (by omega)]) (fun j hj => by rw [hN, up2_j _ _ (by omega), up2_j _ _ (by omega), l74]) (fun j hj => by rw [nf _ (by omega), lf _ (by omega), f1 _ (by omega) (by omega)]) (fun j hj => by rw [nf _ (by omega), lf _ (by omega), f1 _ (by omega) (by omega)]) ⟨und (f, t, c) sa, U, m, ⟨s1, s2, by rw [und_tot q4 q2 q3 u1]; exact s3, ?_, ?_⟩, k, e, by omega, ?_, ?_, ?_, u2⟩
      · exact ShC_congr (by rw [nf _ (by omega), lf _ (by omega)]) (by rw [nf _ (by omega), lf _ (by omega)]) a2
      · refine ⟨by rw [nf _ (by omega), lf _ (by omega), f1 _ (by omega) (by omega)]; exact s5.1, fun i hi => by rw [nf _ (by omega), lf _ (by omega), f1 _ (by omega) (by omega)]; exact s5.2.1 i hi, fun b hb => ?_⟩
        rw [Nat.mul_zero, Nat.zero_add]
        exact n74 b hb
      · rw [nf _ (by omega), lf _ (by omega), a3 _ (by omega)]; exact k35
      · rw [nf _ (by omega)]; exact l25
      · intro j hj
        exact UnE_congr (by rw [nf _ (by omega), lf _ (by omega), f1 _ (by omega) (by omega)]) (by rw [nf _ (by omega), lf _ (by omega), f1 _ (by omega) (by omega)]) (by rw [nf _ (by omega), lf _ (by omega), f1 _ (by omega) (by omega)]) (by rw [nf _ (by omega), lf _ (by omega), f1 _ (by omega) (by omega)]) (fun i hi => by rw [nf _ (by omega), lf _ (by omega), f1 _ (by omega) (by omega)]) (un4 j (by omega))
