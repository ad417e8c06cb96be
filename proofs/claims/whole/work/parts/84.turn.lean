/-! turn, pour, undo, minutes, counted. -/
def bcn (a0 : Int32) : Int32 :=
  (fun x1 : Int32 => (fun x2 : Int32 => (fun x3 : Int32 => (fun x4 : Int32 => (fun x5 : Int32 => (x5 &&& 63)) ((x4 + ((Int32.toUInt32 x4 >>> (Int32.toUInt32 16 &&& Int32.toUInt32 31)).toInt32)))) ((x3 + ((Int32.toUInt32 x3 >>> (Int32.toUInt32 8 &&& Int32.toUInt32 31)).toInt32)))) (((x2 + ((Int32.toUInt32 x2 >>> (Int32.toUInt32 4 &&& Int32.toUInt32 31)).toInt32)) &&& 252645135))) (((x1 &&& 858993459) + (((Int32.toUInt32 x1 >>> (Int32.toUInt32 2 &&& Int32.toUInt32 31)).toInt32) &&& 858993459)))) ((a0 - (((Int32.toUInt32 a0 >>> (Int32.toUInt32 1 &&& Int32.toUInt32 31)).toInt32) &&& 1431655765)))
theorem bcn_is {n : Nat} {a : Int32} {I : IH} : g_J6_bitCount_0f7a4 n a I = some (bcn a, I) := rfl
theorem bcn_pcn : ∀ G, G < 9 → ∀ M, M < 2 ^ G → bcn (nI M) = nI (pcn M G) := by decide +kernel
def updN (sa : Nat → Nat) (f v : Nat) : Nat → Nat := fun b => if b = f then v else sa b
theorem tot_updN {sa : Nat → Nat} {f v : Nat} : ∀ g, (2 * g ≤ f → tot (updN sa f v) g = tot sa g) ∧ (f < 2 * g → tot (updN sa f v) g + sa f = tot sa g + v) := by
  intro g
  induction g with
  | zero => exact ⟨fun _ => rfl, fun h => by omega⟩
  | succ g ih =>
    obtain ⟨i1, i2⟩ := ih
    have e0 : ∀ b, b ≠ f → updN sa f v b = sa b := fun b hb => by unfold updN; rw [if_neg hb]
    have e1 : updN sa f v f = v := by unfold updN; rw [if_pos rfl]
    refine ⟨fun h => ?_, fun h => ?_⟩
    · show tot (updN sa f v) g + (updN sa f v (2 * g) + updN sa f v (2 * g + 1)) = tot sa g + (sa (2 * g) + sa (2 * g + 1))
      rw [i1 (by omega), e0 _ (by omega), e0 _ (by omega)]
    · show tot (updN sa f v) g + (updN sa f v (2 * g) + updN sa f v (2 * g + 1)) + sa f = tot sa g + (sa (2 * g) + sa (2 * g + 1)) + v
      by_cases h1 : f < 2 * g
      · have := i2 h1
        rw [e0 (2 * g) (by omega), e0 (2 * g + 1) (by omega)]
        omega
      · have := i1 (by omega)
        rcases (by omega : f = 2 * g ∨ f = 2 * g + 1) with q | q
        · rw [this, ← q, e1, e0 (f + 1) (by omega)]
          omega
        · rw [this, ← q, e1, e0 (2 * g) (by omega)]
          omega
theorem und_updN {f t c : Nat} {sa : Nat → Nat} (hne : f ≠ t) : und (f, t, c) sa = updN (updN sa f (sa f + c)) t (sa t - c) := by
  funext b
  unfold und updN
  dsimp only
  by_cases h1 : b = t
  · rw [if_pos h1, if_pos h1, h1]
  · rw [if_neg h1, if_neg h1]
    by_cases h2 : b = f
    · rw [if_pos h2, if_pos h2, h2]
    · rw [if_neg h2, if_neg h2]
theorem und_tot {f t c G : Nat} {sa : Nat → Nat} (hne : f ≠ t) (hf : f < 2 * G) (ht : t < 2 * G) (hc : c ≤ sa t) : tot (und (f, t, c) sa) G = tot sa G := by
  rw [und_updN hne]
  have a := (tot_updN (sa := updN sa f (sa f + c)) (f := t) (v := sa t - c) G).2 ht
  have b := (tot_updN (sa := sa) (f := f) (v := sa f + c) G).2 hf
  have e : updN sa f (sa f + c) t = sa t := by unfold updN; rw [if_neg (by omega)]
  rw [e] at a
  omega
theorem und_und {f t c : Nat} {sa : Nat → Nat} (hne : f ≠ t) (hc : c ≤ sa f) : und (f, t, c) (und (t, f, c) sa) = sa := by
  funext b
  unfold und
  dsimp only
  by_cases h1 : b = t
  · rw [if_pos h1, if_neg (by omega), if_pos h1]; omega
  · rw [if_neg h1]
    by_cases h2 : b = f
    · rw [if_pos h2, if_pos h2]
      subst h2
      omega
    · rw [if_neg h2, if_neg h2, if_neg h1]
/-- grains go from t to f -/
theorem c_move {n f t c G : Nat} {sa : Nat → Nat} {U m : Nat} {I : IH} (hG : G ≤ 8) (hne : f ≠ t) (hf : f < 2 * G) (ht : t < 2 * G) (hc : c ≤ sa t) (hS : ShC I 31 G sa U m) : ∃ I', g_X5_move n 31 (nI t) (nI f) (nI c) I = some I' ∧ ShC I' 31 G (und (f, t, c) sa) U m ∧ ∀ id, id ≠ 32 → I' id = I id := by
  obtain ⟨s1, s2, s3⟩ := hS
  simp only [g_X5_move, bnd_eq]
  rw [inB_t (by omega : t < 16) (by omega), inB_t (by omega : f < 16) (by omega)]
  simp only [if_pos]
  rw [nI_clamp (by omega), nI_clamp (by omega), s3 t ht, up2_j _ _ (by omega), s3 f hf, pk_sub hc, nI_add]
  refine ⟨_, rfl, ⟨by rw [up2_i _ _ (by omega), up2_i _ _ (by omega)]; exact s1, by rw [up2_i _ _ (by omega), up2_i _ _ (by omega)]; exact s2, fun b hb => ?_⟩, fun id h => by rw [up2_i _ _ h, up2_i _ _ h]⟩
  unfold und
  dsimp only
  by_cases h2 : b = f
  · subst h2
    rw [up2_s, if_neg hne, if_pos rfl]
  · rw [up2_j _ _ h2]
    by_cases h1 : b = t
    · subst h1
      rw [up2_s, if_pos rfl]
    · rw [up2_j _ _ h1, if_neg h1, if_neg h2]
      exact s3 b hb
theorem o_turn : op_turn Inv := by
  intro p I a0 h
  have h0 := h
  obtain ⟨hp, tx, hl, π, hv, pc, tu, pm, ⟨sa, U, m, sh, z1, e, un1, un2, un3, un4, un5⟩, z, ta, ti, ki⟩ := h
  have hG1 := hv.1
  have hG := hv.2.1
  by_cases hc : 0 ≤ a0 ∧ a0 ≤ nI (π 0 0) - 1
  · obtain ⟨x, hx, rfl⟩ := gl_of hG1 hG hc
    obtain ⟨s1, s2, s3, s4, s5⟩ := sh
    have hcl := Nat.lt_of_lt_of_le (cl_lt hv hx) (pow_G hv)
    obtain ⟨J1, a1, a2, a3⟩ := c_flip (n := 100) (M := cl π x) s4
    obtain ⟨J2, b1, b2, b3, b4, b5⟩ := c_noteTurn (n := 100) (z := z1) (by omega) (I := J1) un1 (by rw [a3 _ (by omega)]; exact un2) (nI (cl π x))
    have f2 : ∀ id, id ≠ 31 → (id < 35 ∨ 39 < id) → J2 id = I id := fun id h1 h2 => by rw [b5 id h2, a3 id h1]
    obtain ⟨J3, d1, d2, d3, d4, d5, d6, d7, d8⟩ := m_note (n := 100) (z := z1) (by omega) (I := J2) un1 (by rw [f2 _ (by omega) (by omega)]; exact un3) (-4) (nI x) 0
    have f3 : ∀ id, id ≠ 31 → (id < 35 ∨ 39 < id) → id ≠ 55 → id ≠ 79 → J3 id = I id := fun id h1 h2 h3 h4 => by rw [d8 id h3 h4, f2 id h1 h2]
    have pm3 : PlM J3 0 π := PlM_congr (by omega) (fun j _ _ => f3 _ (by omega) (by omega) (by omega) (by omega)) pm
    obtain ⟨J4, g1, g2, g3, g4⟩ := m_turn (n := 100) (k := 0) (by omega) hv pm3 (by omega) hx (I := J3) (sa := sa) (U := U) (m := m) (ShM_congr hG (fun j _ _ => by rw [f3 _ (by omega) (by omega) (by omega) (by omega)]) (fun j _ _ => by rw [f3 _ (by omega) (by omega) (by omega) (by omega)]) (by rw [f3 _ (by omega) (by omega) (by omega) (by omega)]) s5)
    have f4 : ∀ id, id ≠ 31 → (id < 35 ∨ 39 < id) → id ≠ 55 → id ≠ 79 → id ≠ 75 → J4 id = I id := fun id h1 h2 h3 h4 h5 => by rw [g4 id h5, f3 id h1 h2 h3 h4]
    refine ⟨100, 100, nI (pcn (cl π x) (π 0 0)), J2, J4, ?_, ?_, ?_⟩
    · simp only [g_X8_turn, bnd_eq]
      rw [c_isGlass, pc.1]
      dsimp only
      rw [r01, if_pos hc, inB_t (by omega) (by omega), if_pos rfl, nI_clamp (by omega), tu x hx, a1]
      dsimp only
      rw [b1]
      dsimp only
      rw [bcn_is, bcn_pcn _ (by omega) _ (cl_lt hv hx)]
    · simp only [g_X9_turn]
      rw [m_isGlass, f2 57 (by omega) (by omega), pm.1]
      dsimp only
      rw [r01, if_pos hc, d1]
      dsimp only
      rw [show g_X9_turnOf 100 0 (nI x) J3 = _ from g1]
    · refine Inv_sh hp tx hl hv pc tu pm ti ki (fun id hid => f4 id (by omega) (by omega) (by omega) (by omega) (by omega)) (fun j h1 h2 => by rw [g4 _ (by omega), d7 j h1, f2 _ (by omega) (by omega)]) (fun j hj => by rw [f4 _ (by omega) (by omega) (by omega) (by omega) (by omega)]) (fun j hj => by rw [g3 j (by omega), f3 _ (by omega) (by omega) (by omega) (by omega)]) (fun j hj => by rw [f4 _ (by omega) (by omega) (by omega) (by omega) (by omega)]) ⟨sa, U ^^^ cl π x, m, ⟨xor_lt s1 hcl, s2, s3, ?_, g2⟩, z1 - dlt z1 + 1, ntd z1 e (x, 0, 0), ?_, ?_, ?_, ?_, ?_⟩
      · exact ShC_congr (by rw [g4 _ (by omega), d8 _ (by omega) (by omega), b5 _ (by omega)]) (by rw [g4 _ (by omega), d8 _ (by omega) (by omega), b5 _ (by omega)]) a2
      · unfold dlt; split <;> omega
      · rw [g4 _ (by omega), d8 _ (by omega) (by omega)]; exact b2
      · rw [g4 _ (by omega)]; exact d2
      · intro k hk
        unfold ntd
        by_cases hkz : k = z1 - dlt z1
        · rw [if_pos hkz, hkz]
          refine Or.inl ⟨rfl, hx, ?_, ?_, ?_⟩
          · rw [g4 _ (by omega), d8 _ (by omega) (by omega)]; exact b4
          · rw [g4 _ (by omega)]; exact d4
          · rw [g4 _ (by omega)]; exact d5
        · rw [if_neg hkz]
          refine UnE_mv (I := I) (fun id h1 h2 => ?_) (fun j hj => ?_) (un4 (k + dlt z1) (by omega))
          · rw [g4 _ (by omega), d8 _ (by omega) (by omega), b3 id h1 h2 k (by omega), a3 _ (by omega)]
          · rw [g4 _ (by omega), d3 k j (by omega) hj, f2 _ (by omega) (by omega)]
      · exact UV_ntd (Nat.zero_le _) (und_0 rfl) un5
  · refine ⟨0, 0, -1, I, I, ?_, ?_, h0⟩
    · simp only [g_X8_turn]
      rw [c_isGlass, pc.1]
      dsimp only
      rw [r01, if_neg hc]
    · simp only [g_X9_turn]
      rw [m_isGlass, pm.1]
      dsimp only
      rw [r01, if_neg hc]
theorem o_minutes : op_minutes Inv := by
  intro p I a0 h
  have h0 := h
  obtain ⟨hp, tx, hl, π, hv, pc, tu, pm, ⟨sa, U, m, sh, z1, e, un1, un2, un3, un4, un5⟩, z, ta, ti, ki⟩ := h
  have hG := hv.2.1
  obtain ⟨s1, s2, s3, s4, s5⟩ := sh
  by_cases hc : 1 ≤ a0 ∧ a0 ≤ 999
  · obtain ⟨x, hx1, hx, rfl⟩ := rng1_of (N := 999) rfl (by omega) hc
    by_cases hm : m + x ≤ 1000000
    · obtain ⟨J1, a1, a2, a3⟩ := c_go (n := 2000) (s := 31) (t := x) (lk := 99) (lb := 0) (by omega) hp hv (by omega) s1 (by omega) (by omega) nobody (by omega) pc tu s4
      have f2 : ∀ id, id ≠ 31 → id ≠ 32 → id ≠ 35 → (up2 J1 35 0 0) id = I id := fun id h1 h2 h3 => by rw [up2_i _ _ h3, a3 id h1 (by omega)]
      obtain ⟨J3, g1, g2, g3⟩ := m_minutes_loop (t := x) (lk := 99) (lb := 0) hv s1 (by omega) (by omega) (by omega) x 0 2000 (up2 J1 35 0 0) (by omega) (by omega) (PlM_congr (by omega) (fun j _ _ => f2 _ (by omega) (by omega) (by omega)) pm) (by rw [f2 _ (by omega) (by omega) (by omega), hl]; exact nobody4) (fun k h1 h2 => by omega) (ShM_congr hG (fun j _ _ => by rw [f2 _ (by omega) (by omega) (by omega)]) (fun j _ _ => by rw [f2 _ (by omega) (by omega) (by omega)]) (by rw [f2 _ (by omega) (by omega) (by omega)]) s5)
      obtain ⟨q1, q2, q3, q4, q5⟩ := g3
      refine ⟨2000, 2000, nI (m + x), up2 J1 35 0 0, up2 J3 55 25 0, ?_, ?_, ?_⟩
      · simp only [g_X8_minutes, bnd_eq]
        rw [c_within]
        dsimp only
        rw [r01, if_pos hc, s4.2.1, nI_add, if_pos (by rw [show (1000000 : Int32) = nI 1000000 from rfl]; exact nI_le (by omega) (by omega)), show g_X5_goOn 2000 31 p (nI x) (-1) 0 I = some J1 from a1]
        dsimp only
        rw [up2_i _ _ (by omega), a2.2.1]
      · simp only [g_X9_minutes, bnd_eq]
        rw [in_1999]
        dsimp only
        rw [r01, if_pos hc, f2 76 (by omega) (by omega) (by omega), s5.1, nI_add, if_pos (by rw [show (1000000 : Int32) = nI 1000000 from rfl]; exact nI_le (by omega) (by omega))]
        exact g1
      · refine Inv_sh hp tx hl hv pc tu pm ti ki (fun id hid => by rw [up2_i _ _ (by omega), q5 _ (by omega) (by omega) (by omega) (by omega) (by omega), f2 _ (by omega) (by omega) (by omega)]) (fun j h1 h2 => by rw [up2_j _ _ h1, q4 j h2, f2 _ (by omega) (by omega) (by omega)]) (fun j hj => by rw [up2_i _ _ (by omega), q1 j (by omega), f2 _ (by omega) (by omega) (by omega)]) (fun j hj => by rw [up2_i _ _ (by omega), q2 j (by omega), f2 _ (by omega) (by omega) (by omega)]) (fun j hj => by rw [up2_i _ _ (by omega), q3 j (by omega), f2 _ (by omega) (by omega) (by omega)]) ⟨(goS π 99 0 sa U m x).1, (goS π 99 0 sa U m x).2, m + x, ⟨goS_U hv s1 x, hm, by rw [goS_tot]; exact s3, ?_, ?_⟩, 0, e, by omega, ?_, ?_, fun k hk => by omega, trivial⟩
        · refine ShC_congr ?_ ?_ a2
          · rw [up2_i _ _ (by omega), q5 _ (by omega) (by omega) (by omega) (by omega) (by omega), up2_i _ _ (by omega)]
          · rw [up2_i _ _ (by omega), q5 _ (by omega) (by omega) (by omega) (by omega) (by omega), up2_i _ _ (by omega)]
        · exact ShM_congr hG (fun j _ _ => by rw [up2_i _ _ (by omega)]) (fun j _ _ => by rw [up2_i _ _ (by omega)]) (by rw [up2_i _ _ (by omega)]) g2
        · rw [up2_i _ _ (by omega), q5 _ (by omega) (by omega) (by omega) (by omega) (by omega), up2_s]; rfl
        · rw [up2_s]; rfl
    · refine ⟨0, 0, -2, I, I, ?_, ?_, h0⟩
      · simp only [g_X8_minutes]
        rw [c_within]
        dsimp only
        rw [r01, if_pos hc, s4.2.1, nI_add, if_neg (by rw [show (1000000 : Int32) = nI 1000000 from rfl]; exact nI_ge (by omega) (by omega))]
      · simp only [g_X9_minutes, bnd_eq]
        rw [in_1999]
        dsimp only
        rw [r01, if_pos hc, s5.1, nI_add, if_neg (by rw [show (1000000 : Int32) = nI 1000000 from rfl]; exact nI_ge (by omega) (by omega))]
  · refine ⟨0, 0, -1, I, I, ?_, ?_, h0⟩
    · simp only [g_X8_minutes]
      rw [c_within]
      dsimp only
      rw [r01, if_neg hc]
    · simp only [g_X9_minutes]
      rw [in_1999]
      dsimp only
      rw [r01, if_neg hc]
