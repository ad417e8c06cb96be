/-! counted, keep, back. -/
theorem c_note {n z : Nat} {I : IH} (hz : z < 12) (h : I 40 0 = nI z) (a b c : Int32) : ∃ I', g_X6_note n a b c I = some I' ∧ I' 40 0 = nI (z + 1) ∧ (∀ j, j ≠ z → I' 41 j = I 41 j ∧ I' 42 j = I 42 j ∧ I' 43 j = I 43 j) ∧ (I' 41 z = a ∧ I' 42 z = b ∧ I' 43 z = c) ∧ ∀ id, id < 40 ∨ 43 < id → I' id = I id := by
  simp only [g_X6_note, bnd_eq]
  simp only [up2_i (a := 40) (i := 41) _ _ (by omega), up2_i (a := 40) (i := 42) _ _ (by omega), up2_i (a := 40) (i := 43) _ _ (by omega), h]
  rw [show (12 : Int32) = nI 12 from rfl, if_pos ((nI_ltI (by omega) (by omega)).mpr hz), inB_t (by omega : z < 12) (by omega), nI_clamp (by omega), nI_1]
  simp only [if_pos]
  refine ⟨_, rfl, up2_s _ _ _ _, fun j hj => ⟨?_, ?_, ?_⟩, ⟨?_, ?_, ?_⟩, fun id hid => ?_⟩
  · rw [up2_i _ _ (by omega), up2_i _ _ (by omega), up2_i _ _ (by omega), up2_j _ _ hj]
  · rw [up2_i _ _ (by omega), up2_i _ _ (by omega), up2_j _ _ hj, up2_i _ _ (by omega)]
  · rw [up2_i _ _ (by omega), up2_j _ _ hj, up2_i _ _ (by omega), up2_i _ _ (by omega)]
  · rw [up2_i _ _ (by omega), up2_i _ _ (by omega), up2_i _ _ (by omega), up2_s]
  · rw [up2_i _ _ (by omega), up2_i _ _ (by omega), up2_s]
  · rw [up2_i _ _ (by omega), up2_s]
  · rw [up2_i _ _ (by omega), up2_i _ _ (by omega), up2_i _ _ (by omega), up2_i _ _ (by omega)]
theorem o_counted : op_counted Inv := by
  intro p I a0 a1 a2 h
  have h0 := h
  obtain ⟨hp, tx, hl, π, hv, pc, tu, pm, ⟨sa, U, m, sh, un⟩, z, ta, ⟨t1, t2, t3, t4⟩, w, zs, k1, k2, k3, k4⟩ := h
  have hG1 := hv.1
  have hG := hv.2.1
  have bad : ∀ (r : Int32), g_X8_counted 0 p a0 a1 a2 I = some (r, I) → g_X9_counted 0 a0 a1 a2 I = some (r, I) → ∃ (n1 n2 : Nat) (r : Int32) (I1 I2 : IH), g_X8_counted n1 p a0 a1 a2 I = some (r, I1) ∧ g_X9_counted n2 a0 a1 a2 I1 = some (r, I2) ∧ Inv p I2 := fun r q1 q2 => ⟨0, 0, r, I, I, q1, q2, h0⟩
  by_cases hc0 : 0 ≤ a0 ∧ a0 ≤ nI (π 0 0) - 1
  case neg =>
    refine bad (-1) ?_ ?_
    · simp only [g_X8_counted]
      rw [c_isGlass, pc.1]
      dsimp only
      rw [r01, if_neg hc0]
    · simp only [g_X9_counted]
      rw [m_isGlass, pm.1]
      dsimp only
      rw [r01, if_neg hc0]
  by_cases hc1 : 0 ≤ a1 ∧ a1 ≤ 20000
  case neg =>
    refine bad (-1) ?_ ?_
    · simp only [g_X8_counted]
      rw [c_isGlass, pc.1]
      dsimp only
      rw [r01, if_pos hc0, c_within]
      dsimp only
      rw [r01, if_neg hc1]
    · simp only [g_X9_counted]
      rw [m_isGlass, pm.1]
      dsimp only
      rw [r01, if_pos hc0, m_isLater]
      dsimp only
      rw [r01, if_neg hc1]
  by_cases hc2 : 0 ≤ a2 ∧ a2 ≤ 9999
  case neg =>
    refine bad (-1) ?_ ?_
    · simp only [g_X8_counted]
      rw [c_isGlass, pc.1]
      dsimp only
      rw [r01, if_pos hc0, c_within]
      dsimp only
      rw [r01, if_pos hc1, c_within]
      dsimp only
      rw [r01, if_neg hc2]
    · simp only [g_X9_counted]
      rw [m_isGlass, pm.1]
      dsimp only
      rw [r01, if_pos hc0, m_isLater]
      dsimp only
      rw [r01, if_pos hc1, in_09999]
      dsimp only
      rw [r01, if_neg hc2]
  by_cases hz : z = 12
  · subst hz
    refine bad (-3) ?_ ?_
    · simp only [g_X8_counted]
      rw [c_isGlass, pc.1]
      dsimp only
      rw [r01, if_pos hc0, c_within]
      dsimp only
      rw [r01, if_pos hc1, c_within]
      dsimp only
      rw [r01, if_pos hc2, t2, if_neg (by decide)]
    · simp only [g_X9_counted, bnd_eq]
      rw [m_isGlass, pm.1]
      dsimp only
      rw [r01, if_pos hc0, m_isLater]
      dsimp only
      rw [r01, if_pos hc1, in_09999]
      dsimp only
      rw [r01, if_pos hc2, t3, if_pos (by rfl)]
  have hz12 : z < 12 := by omega
  obtain ⟨J1, b1, b2, b3, ⟨b40, b41, b42⟩, b5⟩ := c_note (n := 0) (I := I) hz12 t2 a0 a1 a2
  obtain ⟨K, hK⟩ : ∃ K, K = up2 (up2 (up2 (up2 J1 78 (3 * z) a0) 78 (3 * z + 1) a1) 78 (3 * z + 2) a2) 77 0 (nI (z + 1)) := ⟨_, rfl⟩
  have j77 : J1 77 0 = nI z := by rw [b5 _ (by omega)]; exact t3
  have k77 : K 77 0 = nI (z + 1) := by rw [hK, up2_s]
  refine ⟨0, 0, nI (z + 1), J1, K, ?_, ?_, ?_⟩
  · simp only [g_X8_counted]
    rw [c_isGlass, pc.1]
    dsimp only
    rw [r01, if_pos hc0, c_within]
    dsimp only
    rw [r01, if_pos hc1, c_within]
    dsimp only
    rw [r01, if_pos hc2, t2, if_pos (by rw [show (12 : Int32) = nI 12 from rfl]; exact (nI_ltI (by omega) (by omega)).mpr hz12), b1]
    dsimp only
    rw [b2]
  · simp only [g_X9_counted, bnd_eq]
    rw [m_isGlass, b5 57 (by omega), pm.1]
    dsimp only
    rw [r01, if_pos hc0, m_isLater]
    dsimp only
    rw [r01, if_pos hc1, in_09999]
    dsimp only
    rw [r01, if_pos hc2, j77, if_neg (by rw [show (12 : Int32) = nI 12 from rfl]; exact fun q => hz ((nI_eq (by omega) (by omega)).mp q)), li3, pk_mul, li1, nI_add, li2, nI_add, inB_t (by omega : 3 * z < 108) (by omega), inB_t (by omega : 3 * z + 1 < 108) (by omega), inB_t (by omega : 3 * z + 2 < 108) (by omega), nI_clamp (by omega), nI_clamp (by omega), nI_clamp (by omega)]
    simp only [if_pos]
    rw [up2_i (a := 77) (i := 78) _ _ (by omega), up2_i (a := 77) (i := 78) _ _ (by omega), up2_i (a := 77) (i := 78) _ _ (by omega), j77, nI_add, ← hK, k77]
  · obtain ⟨x, hx, rfl⟩ := gl_of hG1 hG hc0
    obtain ⟨y, hy, rfl⟩ := rng_of (N := 20000) rfl (by omega) hc1
    obtain ⟨v, hv', rfl⟩ := rng_of (N := 9999) rfl (by omega) hc2
    have kf : ∀ id, (id < 40 ∨ 43 < id) → id ≠ 77 → id ≠ 78 → K id = I id := fun id h1 h2 h3 => by rw [hK, up2_i _ _ h2, up2_i _ _ h3, up2_i _ _ h3, up2_i _ _ h3, b5 id h1]
    have kc : ∀ id, 40 ≤ id → id ≤ 43 → K id = J1 id := fun id h1 h2 => by rw [hK, up2_i _ _ (by omega), up2_i _ _ (by omega), up2_i _ _ (by omega), up2_i _ _ (by omega)]
    have k78 : ∀ j, j ≠ 3 * z → j ≠ 3 * z + 1 → j ≠ 3 * z + 2 → K 78 j = I 78 j := fun j h1 h2 h3 => by rw [hK, up2_i _ _ (by omega), up2_j _ _ h3, up2_j _ _ h2, up2_j _ _ h1, b5 _ (by omega)]
    have k771 : ∀ j, j ≠ 0 → K 77 j = I 77 j := fun j hj => by rw [hK, up2_j _ _ hj, up2_i _ _ (by omega), up2_i _ _ (by omega), up2_i _ _ (by omega), b5 _ (by omega)]
    obtain ⟨tb, htb⟩ : ∃ tb : Nat → Nat → Nat, tb = fun k c => if k = z then (if c = 0 then x else if c = 1 then y else v) else ta k c := ⟨_, rfl⟩
    have tbz : tb z 0 = x ∧ tb z 1 = y ∧ tb z 2 = v := by subst htb; refine ⟨?_, ?_, ?_⟩ <;> simp
    have tbk : ∀ k c, k ≠ z → tb k c = ta k c := fun k c hk => by subst htb; exact if_neg hk
    refine ⟨hp, TxI_congr (kf _ (by omega) (by omega) (by omega)) (kf _ (by omega) (by omega) (by omega)) (by rw [kf _ (by omega) (by omega) (by omega)]) (kf _ (by omega) (by omega) (by omega)) tx, by rw [kf _ (by omega) (by omega) (by omega)]; exact hl, π, hv, PlC_congr (fun j hj => kf _ (by omega) (by omega) (by omega)) pc, fun x hx => by rw [kf _ (by omega) (by omega) (by omega)]; exact tu x hx, PlM_congr (by omega) (fun j _ _ => kf _ (by omega) (by omega) (by omega)) pm, ⟨sa, U, m, ShI_congr hG (kf _ (by omega) (by omega) (by omega)) (kf _ (by omega) (by omega) (by omega)) (fun j _ h => by rw [kf _ (by omega) (by omega) (by omega)]) (fun j _ h => by rw [kf _ (by omega) (by omega) (by omega)]) (by rw [kf _ (by omega) (by omega) (by omega)]) sh, UnI_congr (fun j _ _ => kf _ (by omega) (by omega) (by omega)) (kf _ (by omega) (by omega) (by omega)) (by rw [kf _ (by omega) (by omega) (by omega)]) un⟩, z + 1, tb, ⟨by omega, by rw [kc _ (by omega) (by omega)]; exact b2, k77, fun k hk => ?_⟩, w, zs, k1, by rw [kf _ (by omega) (by omega) (by omega)]; exact k2, by rw [kf _ (by omega) (by omega) (by omega)]; exact k3, fun j hj => ?_⟩
    · rw [kc 41 (by omega) (by omega), kc 42 (by omega) (by omega), kc 43 (by omega) (by omega)]
      by_cases hkz : k = z
      · subst hkz
        rw [tbz.1, tbz.2.1, tbz.2.2]
        refine ⟨hx, hy, hv', b40, b41, b42, ?_, ?_, ?_⟩
        · rw [hK, up2_i _ _ (by omega), up2_j _ _ (by omega), up2_j _ _ (by omega), up2_s]
        · rw [hK, up2_i _ _ (by omega), up2_j _ _ (by omega), up2_s]
        · rw [hK, up2_i _ _ (by omega), up2_s]
      · rw [tbk k 0 hkz, tbk k 1 hkz, tbk k 2 hkz, (b3 k hkz).1, (b3 k hkz).2.1, (b3 k hkz).2.2, k78 _ (by omega) (by omega) (by omega), k78 _ (by omega) (by omega) (by omega), k78 _ (by omega) (by omega) (by omega)]
        exact t4 k (by omega)
    · obtain ⟨d1, d2, d3, d4, d5, sa', U', m', d6⟩ := k4 j hj
      refine ⟨by omega, d2, by rw [kf _ (by omega) (by omega) (by omega)]; exact d3, by rw [k771 _ (by omega)]; exact d4, fun k hk => ?_, sa', U', m', ?_⟩
      · rw [tbk k 0 (by omega), tbk k 1 (by omega), tbk k 2 (by omega), k78 _ (by omega) (by omega) (by omega), k78 _ (by omega) (by omega) (by omega), k78 _ (by omega) (by omega) (by omega)]
        exact d5 k hk
      · exact ShI_congr hG (kf _ (by omega) (by omega) (by omega)) (kf _ (by omega) (by omega) (by omega)) (fun j _ h => by rw [kf _ (by omega) (by omega) (by omega)]) (fun j _ h => by rw [kf _ (by omega) (by omega) (by omega)]) (by rw [kf _ (by omega) (by omega) (by omega)]) d6
theorem m_cc_loop {a b : Nat} (ha : a ≤ 2) (hb : b ≤ 2) (hne : a ≠ b) {I : IH} : ∀ (d k n : Nat) (J : IH), k + d = 36 → d < n → (∀ x, x < k → J 78 (36 * b + x) = I 78 (36 * a + x)) → (∀ x, x < 36 * b ∨ 36 * b + k ≤ x → J 78 x = I 78 x) → (∀ id, id ≠ 78 → J id = I id) →
    ∃ I', g_X9_copyCounts_14 n (nI a) (nI b) (nI k) J = some I' ∧ (∀ x, x < 36 → I' 78 (36 * b + x) = I 78 (36 * a + x)) ∧ (∀ x, x < 36 * b ∨ 36 * b + 36 ≤ x → I' 78 x = I 78 x) ∧ ∀ id, id ≠ 78 → I' id = I id := by
  intro d
  induction d with
  | zero =>
    intro k n J hk hn h1 h2 h3
    obtain ⟨n, rfl⟩ : ∃ k, n = k + 1 := ⟨n - 1, by omega⟩
    simp only [g_X9_copyCounts_14]
    rw [show (36 : Int32) = nI 36 from rfl, if_pos (nI_le (by omega) (by omega))]
    exact ⟨J, rfl, fun x hx => h1 x (by omega), fun x hx => h2 x (by omega), h3⟩
  | succ d ih =>
    intro k n J hk hn h1 h2 h3
    obtain ⟨n, rfl⟩ : ∃ k, n = k + 1 := ⟨n - 1, by omega⟩
    simp only [g_X9_copyCounts_14, bnd_eq]
    rw [show (36 : Int32) = nI 36 from rfl, if_neg (nI_ge (by omega) (by omega)), pk_mul, pk_mul, nI_add, nI_add, inB_t (by omega : 36 * a + k < 108) (by omega), if_pos rfl, inB_t (by omega : 36 * b + k < 108) (by omega), if_pos rfl, nI_clamp (by omega), nI_clamp (by omega), nI_1, h2 (36 * a + k) (by omega)]
    refine ih (k + 1) n _ (by omega) (by omega) (fun x hx => ?_) (fun x hx => ?_) (fun id q => ?_)
    · by_cases hxk : x = k
      · subst hxk; exact up2_s _ _ _ _
      · rw [up2_j _ _ (by omega)]; exact h1 x (by omega)
    · rw [up2_j _ _ (by omega)]; exact h2 x (by omega)
    · rw [up2_i _ _ q]; exact h3 id q
theorem m_cc {a b n : Nat} (hn : 40 ≤ n) (ha : a ≤ 2) (hb : b ≤ 2) (hne : a ≠ b) {I : IH} : ∃ I', g_X9_copyCounts n (nI a) (nI b) I = some I' ∧ I' 77 b = I 77 a ∧ (∀ x, x ≠ b → I' 77 x = I 77 x) ∧ (∀ x, x < 36 → I' 78 (36 * b + x) = I 78 (36 * a + x)) ∧ (∀ x, x < 36 * b ∨ 36 * b + 36 ≤ x → I' 78 x = I 78 x) ∧ ∀ id, id ≠ 77 → id ≠ 78 → I' id = I id := by
  simp only [g_X9_copyCounts, bnd_eq]
  rw [inB_t (by omega : a < 3) (by omega), if_pos rfl, inB_t (by omega : b < 3) (by omega), if_pos rfl, nI_clamp (by omega), nI_clamp (by omega), li0]
  obtain ⟨I', k1, k2, k3, k4⟩ := m_cc_loop ha hb hne (I := up2 I 77 b (I 77 a)) 36 0 n _ (by omega) (by omega) (fun x hx => by omega) (fun _ _ => rfl) (fun _ _ => rfl)
  refine ⟨I', k1, by rw [k4 _ (by omega), up2_s], fun x hx => by rw [k4 _ (by omega), up2_j _ _ hx], fun x hx => by rw [k2 x hx, up2_i _ _ (by omega)], fun x hx => by rw [k3 x hx, up2_i _ _ (by omega)], fun id h1 h2 => by rw [k4 id h2, up2_i _ _ h1]⟩
theorem o_keep : op_keep Inv := by
  intro p I h
  have h0 := h
  obtain ⟨hp, tx, hl, π, hv, pc, tu, pm, ⟨sa, U, m, sh, un⟩, z, ta, ⟨t1, t2, t3, t4⟩, w, zs, k1, k2, k3, k4⟩ := h
  have hG := hv.2.1
  by_cases hw : w = 2
  · subst hw
    refine ⟨0, 0, -3, I, I, ?_, ?_, h0⟩
    · simp only [g_X8_keep]
      rw [k2, if_neg (by decide)]
    · simp only [g_X9_keep]
      rw [k3, if_pos (by rfl)]
  have hw2 : w < 2 := by omega
  have sh0 := sh
  obtain ⟨s1, s2, s3, s4, s5⟩ := sh
  obtain ⟨J1, a1, a2, a3⟩ := c_copy (n := 100) (s := 49 + 2 * w) (o := 31) (by omega) (by omega) (by omega) hG s4
  obtain ⟨K, hK⟩ : ∃ K, K = up2 (up2 J1 53 w (nI z)) 0 12 (nI (w + 1)) := ⟨_, rfl⟩
  have kf : ∀ id, id ≠ 0 → id ≠ 53 → id ≠ 49 + 2 * w → id ≠ 49 + 2 * w + 1 → K id = I id := fun id h1 h2 h3 h4 => by rw [hK, up2_i _ _ h1, up2_i _ _ h2, a3 id h3 h4]
  obtain ⟨L, hL⟩ : ∃ L, L = up2 K 55 24 (nI (w + 1)) := ⟨_, rfl⟩
  have lf : ∀ id, id ≠ 55 → L id = K id := fun id h1 => by rw [hL, up2_i _ _ h1]
  have l24 : L 55 24 = nI (w + 1) := by rw [hL, up2_s]
  obtain ⟨J2, b1, b2, b3, b4, b5, b6⟩ := m_copy (n := 100) (a := 0) (b := 2 + w) (I := L) (by omega) (by omega) (by omega) (by omega) hG (sa := sa) (U := U) (m := m) (ShM_congr hG (fun j _ _ => by rw [lf _ (by omega), kf _ (by omega) (by omega) (by omega) (by omega)]) (fun j _ _ => by rw [lf _ (by omega), kf _ (by omega) (by omega) (by omega) (by omega)]) (by rw [lf _ (by omega), kf _ (by omega) (by omega) (by omega) (by omega)]) s5)
  obtain ⟨J3, d1, d2, d3, d4, d5, d6⟩ := m_cc (n := 100) (a := 0) (b := w + 1) (I := J2) (by omega) (by omega) (by omega) (by omega)
  have j2 : ∀ id, id ≠ 0 → id ≠ 53 → id ≠ 49 + 2 * w → id ≠ 49 + 2 * w + 1 → id ≠ 55 → id ≠ 74 → id ≠ 75 → id ≠ 76 → J2 id = I id := fun id h1 h2 h3 h4 h5 h6 h7 h8 => by rw [b6 id h6 h7 h8, lf id h5, kf id h1 h2 h3 h4]
  have j3 : ∀ id, id ≠ 0 ∧ id ≠ 53 ∧ id ≠ 49 + 2 * w ∧ id ≠ 49 + 2 * w + 1 ∧ id ≠ 55 ∧ id ≠ 74 ∧ id ≠ 75 ∧ id ≠ 76 ∧ id ≠ 77 ∧ id ≠ 78 → J3 id = I id := fun id h => by rw [d6 id (by omega) (by omega), j2 id (by omega) (by omega) (by omega) (by omega) (by omega) (by omega) (by omega) (by omega)]
  have q55 : J3 55 = L 55 := by rw [d6 _ (by omega) (by omega), b6 _ (by omega) (by omega) (by omega)]
  have q74 : ∀ x, x < 16 * (2 + w) ∨ 16 * (2 + w) + 16 ≤ x → J3 74 x = I 74 x := fun x hx => by rw [d6 _ (by omega) (by omega), b3 x hx, lf _ (by omega), kf _ (by omega) (by omega) (by omega) (by omega)]
  have q75 : ∀ x, x < 8 * (2 + w) ∨ 8 * (2 + w) + 8 ≤ x → J3 75 x = I 75 x := fun x hx => by rw [d6 _ (by omega) (by omega), b4 x hx, lf _ (by omega), kf _ (by omega) (by omega) (by omega) (by omega)]
  have q76 : ∀ x, x ≠ 2 + w → J3 76 x = I 76 x := fun x hx => by rw [d6 _ (by omega) (by omega), b5 x hx, lf _ (by omega), kf _ (by omega) (by omega) (by omega) (by omega)]
  have q77 : ∀ x, x ≠ w + 1 → J3 77 x = I 77 x := fun x hx => by rw [d3 x hx, j2 _ (by omega) (by omega) (by omega) (by omega) (by omega) (by omega) (by omega) (by omega)]
  have q78 : ∀ x, x < 36 * (w + 1) ∨ 36 * (w + 1) + 36 ≤ x → J3 78 x = I 78 x := fun x hx => by rw [d5 x hx, j2 _ (by omega) (by omega) (by omega) (by omega) (by omega) (by omega) (by omega) (by omega)]
  have q0 : J3 0 = K 0 := by rw [d6 _ (by omega) (by omega), b6 _ (by omega) (by omega) (by omega), lf _ (by omega)]
  have q53 : J3 53 = K 53 := by rw [d6 _ (by omega) (by omega), b6 _ (by omega) (by omega) (by omega), lf _ (by omega)]
  have qs : ∀ id, id = 49 + 2 * w ∨ id = 49 + 2 * w + 1 → J3 id = J1 id := fun id h => by rw [d6 _ (by omega) (by omega), b6 _ (by omega) (by omega) (by omega), lf _ (by omega), hK, up2_i _ _ (by omega), up2_i _ _ (by omega)]
  have K12 : K 0 12 = nI (w + 1) := by rw [hK, up2_s]
  refine ⟨100, 100, nI (w + 1), K, J3, ?_, ?_, ?_⟩
  · simp only [g_X8_keep, bnd_eq]
    rw [k2, if_pos (by rw [li2]; exact (nI_ltI (by omega) (by omega)).mpr hw2)]
    have e12 : J1 0 12 = nI w := by rw [a3 _ (by omega) (by omega)]; exact k2
    have e40 : J1 40 0 = nI z := by rw [a3 _ (by omega) (by omega)]; exact t2
    rcases (by omega : w = 0 ∨ w = 1) with e | e
    · subst e
      rw [if_pos (by rfl), show g_X5_copyFrom 100 49 31 I = some J1 from a1]
      dsimp only
      rw [e12, inB_t (by omega : 0 < 2) (by omega), if_pos rfl, nI_clamp (by omega), e40, up2_i (a := 0) (i := 53) _ _ (by omega), e12, nI_1, ← hK, K12]
    · subst e
      rw [if_neg (by decide), if_pos (by rfl), show g_X5_copyFrom 100 51 31 I = some J1 from a1]
      dsimp only
      rw [e12, inB_t (by omega : 1 < 2) (by omega), if_pos rfl, nI_clamp (by omega), e40, up2_i (a := 0) (i := 53) _ _ (by omega), e12, nI_1, ← hK, K12]
  · simp only [g_X9_keep, bnd_eq]
    rw [kf 55 (by omega) (by omega) (by omega) (by omega), k3, if_neg (by rw [li2]; exact fun q => hw ((nI_eq (by omega) (by omega)).mp q)), nI_1, ← hL, l24, li1, nI_add, show 1 + (w + 1) = 2 + w by omega, show g_X9_copy 100 0 (nI (2 + w)) L = some J2 from b1]
    dsimp only
    rw [b6 _ (by omega) (by omega) (by omega), l24, show g_X9_copyCounts 100 0 (nI (w + 1)) J2 = some J3 from d1]
    dsimp only
    rw [q55, l24]
  · refine ⟨hp, TxI_congr (j3 _ (by omega)) (j3 _ (by omega)) (by rw [q55, hL, up2_j _ _ (by omega), kf _ (by omega) (by omega) (by omega) (by omega)]) (j3 _ (by omega)) tx, by rw [q55, hL, up2_j _ _ (by omega), kf _ (by omega) (by omega) (by omega) (by omega)]; exact hl, π, hv, PlC_congr (fun j hj => j3 _ (by omega)) pc, fun x hx => by rw [j3 _ (by omega)]; exact tu x hx, PlM_congr (by omega) (fun j _ _ => j3 _ (by omega)) pm, ⟨sa, U, m, ShI_congr hG (j3 _ (by omega)) (j3 _ (by omega)) (fun j _ h => q74 j (by omega)) (fun j _ h => q75 j (by omega)) (q76 _ (by omega)) sh0, UnI_congr (fun j _ _ => j3 _ (by omega)) (j3 _ (by omega)) (by rw [q55, hL, up2_j _ _ (by omega), kf _ (by omega) (by omega) (by omega) (by omega)]) un⟩, z, ta, TaI_congr (fun j _ _ => j3 _ (by omega)) (q77 _ (by omega)) (fun j hj => q78 _ (by omega)) ⟨t1, t2, t3, t4⟩, w + 1, fun j => if j = w then z else zs j, by omega, by rw [q0]; exact K12, by rw [q55]; exact l24, fun j hj => ?_⟩
    dsimp only
    by_cases hjw : j = w
    · subst hjw
      refine ⟨by rw [if_pos rfl]; exact Nat.le_refl _, fun i hi => by rw [if_neg (by omega), if_pos rfl]; exact (k4 i hi).1, by rw [if_pos rfl, q53, hK, up2_i _ _ (by omega), up2_s], by rw [if_pos rfl, Nat.add_comm 1 j, d2, j2 _ (by omega) (by omega) (by omega) (by omega) (by omega) (by omega) (by omega) (by omega)]; exact t3, fun k hk => ?_, sa, U, m, s1, s2, s3, ShC_congr (qs _ (by omega)) (qs _ (by omega)) a2, ShM_congr hG (fun x _ _ => by rw [d6 _ (by omega) (by omega)]) (fun x _ _ => by rw [d6 _ (by omega) (by omega)]) (by rw [d6 _ (by omega) (by omega)]) b2⟩
      rw [if_pos rfl] at hk
      have h78 : J2 78 = I 78 := j2 _ (by omega) (by omega) (by omega) (by omega) (by omega) (by omega) (by omega) (by omega)
      have hh := t4 k hk
      rw [Nat.add_comm 1 j, d4 _ (by omega), d4 _ (by omega), d4 _ (by omega), h78, Nat.mul_zero, Nat.zero_add, Nat.zero_add, Nat.zero_add]
      exact ⟨hh.2.2.2.2.2.2.1, hh.2.2.2.2.2.2.2.1, hh.2.2.2.2.2.2.2.2⟩
    · obtain ⟨x1, x2, x3, x4, x5, sa', U', m', x6⟩ := k4 j (by omega)
      have e0 : J3 53 j = I 53 j := by rw [q53, hK, up2_i _ _ (by omega), up2_j _ _ hjw, a3 _ (by omega) (by omega)]
      rw [if_neg hjw]
      refine ⟨x1, fun i hi => by rw [if_neg (by omega)]; exact x2 i hi, by rw [e0]; exact x3, by rw [q77 _ (by omega)]; exact x4, fun k hk => ?_, sa', U', m', ShI_congr hG (j3 _ (by omega)) (j3 _ (by omega)) (fun x _ h => q74 x (by omega)) (fun x _ h => q75 x (by omega)) (q76 _ (by omega)) x6⟩
      rw [q78 _ (by omega), q78 _ (by omega), q78 _ (by omega)]
      exact x5 k hk
theorem o_back : op_back Inv := by
  intro p I h
  have h0 := h
  obtain ⟨hp, tx, hl, π, hv, pc, tu, pm, ⟨sa, U, m, sh, z1, e, un⟩, z, ta, ⟨t1, t2, t3, t4⟩, w, zs, k1, k2, k3, k4⟩ := h
  have hG := hv.2.1
  by_cases hw : w = 0
  · subst hw
    refine ⟨0, 0, -2, I, I, ?_, ?_, h0⟩
    · simp only [g_X8_back]
      rw [k2, if_neg (by decide)]
    · simp only [g_X9_back]
      rw [k3, if_pos (by rfl)]
  obtain ⟨v, rfl⟩ : ∃ v, w = v + 1 := ⟨w - 1, by omega⟩
  obtain ⟨x1, x2, x3, x4, x5, sa', U', m', y1, y2, y3, y4, y5⟩ := k4 v (by omega)
  have e1 : nI (v + 1) - 1 = nI v := by rw [li1, pk_sub (by omega), show v + 1 - 1 = v by omega]
  obtain ⟨H, hH⟩ : ∃ H, H = up2 I 0 12 (nI v) := ⟨_, rfl⟩
  have hf : ∀ id, id ≠ 0 → H id = I id := fun id h1 => by rw [hH, up2_i _ _ h1]
  have h12 : H 0 12 = nI v := by rw [hH, up2_s]
  obtain ⟨J1, a1, a2, a3⟩ := c_copy (n := 100) (s := 31) (o := 49 + 2 * v) (I := H) (by omega) (by omega) (by omega) hG (ShC_congr (hf _ (by omega)) (hf _ (by omega)) y4)
  obtain ⟨K, hK⟩ : ∃ K, K = up2 (up2 J1 40 0 (nI (zs v))) 35 0 0 := ⟨_, rfl⟩
  have kf : ∀ id, id ≠ 0 → id ≠ 40 → id ≠ 35 → id ≠ 31 → id ≠ 32 → K id = I id := fun id h1 h2 h3 h4 h5 => by rw [hK, up2_i _ _ h3, up2_i _ _ h2, a3 id h4 (by omega), hf id h1]
  have k12 : K 0 12 = nI v := by rw [hK, up2_i _ _ (by omega), up2_i _ _ (by omega), a3 _ (by omega) (by omega)]; exact h12
  have j53 : J1 53 v = nI (zs v) := by rw [a3 _ (by omega) (by omega), hf _ (by omega)]; exact x3
  obtain ⟨J2, b1, b2, b3, b4, b5, b6⟩ := m_copy (n := 100) (a := 2 + v) (b := 0) (I := K) (by omega) (by omega) (by omega) (by omega) hG (sa := sa') (U := U') (m := m') (ShM_congr hG (fun j _ _ => by rw [kf _ (by omega) (by omega) (by omega) (by omega) (by omega)]) (fun j _ _ => by rw [kf _ (by omega) (by omega) (by omega) (by omega) (by omega)]) (by rw [kf _ (by omega) (by omega) (by omega) (by omega) (by omega)]) y5)
  obtain ⟨J3, d1, d2, d3, d4, d5, d6⟩ := m_cc (n := 100) (a := v + 1) (b := 0) (I := J2) (by omega) (by omega) (by omega) (by omega)
  have j2 : ∀ id, id ≠ 74 → id ≠ 75 → id ≠ 76 → J2 id = K id := b6
  have j3 : ∀ id, id ≠ 74 → id ≠ 75 → id ≠ 76 → id ≠ 77 → id ≠ 78 → J3 id = K id := fun id h1 h2 h3 h4 h5 => by rw [d6 id h4 h5, b6 id h1 h2 h3]
  have q55 : J3 55 = I 55 := by rw [j3 _ (by omega) (by omega) (by omega) (by omega) (by omega), kf _ (by omega) (by omega) (by omega) (by omega) (by omega)]
  obtain ⟨M, hM⟩ : ∃ M, M = up2 (up2 J3 55 24 (nI v)) 55 25 0 := ⟨_, rfl⟩
  have mf : ∀ id, id ≠ 55 → M id = J3 id := fun id h1 => by rw [hM, up2_i _ _ h1, up2_i _ _ h1]
  have m24 : M 55 24 = nI v := by rw [hM, up2_j _ _ (by omega), up2_s]
  have m25 : M 55 25 = nI 0 := by rw [hM, up2_s]; rfl
  have m55 : ∀ j, j ≠ 24 → j ≠ 25 → M 55 j = I 55 j := fun j h1 h2 => by rw [hM, up2_j _ _ h2, up2_j _ _ h1, q55]
  have m3 : ∀ id, id ≠ 0 ∧ id ≠ 40 ∧ id ≠ 35 ∧ id ≠ 31 ∧ id ≠ 32 ∧ id ≠ 55 ∧ id ≠ 74 ∧ id ≠ 75 ∧ id ≠ 76 ∧ id ≠ 77 ∧ id ≠ 78 → M id = I id := fun id h => by rw [mf _ (by omega), j3 _ (by omega) (by omega) (by omega) (by omega) (by omega), kf _ (by omega) (by omega) (by omega) (by omega) (by omega)]
  have q74 : ∀ x, 16 ≤ x → M 74 x = I 74 x := fun x hx => by rw [mf _ (by omega), d6 _ (by omega) (by omega), b3 x (by omega), kf _ (by omega) (by omega) (by omega) (by omega) (by omega)]
  have q75 : ∀ x, 8 ≤ x → M 75 x = I 75 x := fun x hx => by rw [mf _ (by omega), d6 _ (by omega) (by omega), b4 x (by omega), kf _ (by omega) (by omega) (by omega) (by omega) (by omega)]
  have q76 : ∀ x, x ≠ 0 → M 76 x = I 76 x := fun x hx => by rw [mf _ (by omega), d6 _ (by omega) (by omega), b5 x hx, kf _ (by omega) (by omega) (by omega) (by omega) (by omega)]
  have q77 : ∀ x, x ≠ 0 → M 77 x = I 77 x := fun x hx => by rw [mf _ (by omega), d3 x hx, b6 _ (by omega) (by omega) (by omega), kf _ (by omega) (by omega) (by omega) (by omega) (by omega)]
  have q78 : ∀ x, 36 ≤ x → M 78 x = I 78 x := fun x hx => by rw [mf _ (by omega), d5 x (by omega), b6 _ (by omega) (by omega) (by omega), kf _ (by omega) (by omega) (by omega) (by omega) (by omega)]
  refine ⟨100, 100, nI v, K, M, ?_, ?_, ?_⟩
  · simp only [g_X8_back, bnd_eq]
    rw [k2, if_pos (by rw [li0]; exact (nI_ltI (by omega) (by omega)).mpr (by omega)), e1, ← hH, h12]
    have e12 : J1 0 12 = nI v := by rw [a3 _ (by omega) (by omega)]; exact h12
    rcases (by omega : v = 0 ∨ v = 1) with e | e
    · subst e
      rw [if_pos (by rfl), show g_X5_copyFrom 100 31 49 H = some J1 from a1]
      dsimp only
      rw [e12, inB_t (by omega : 0 < 2) (by omega), if_pos rfl, nI_clamp (by omega), j53, ← hK, k12]
    · subst e
      rw [if_neg (by decide), if_pos (by rfl), show g_X5_copyFrom 100 31 51 H = some J1 from a1]
      dsimp only
      rw [e12, inB_t (by omega : 1 < 2) (by omega), if_pos rfl, nI_clamp (by omega), j53, ← hK, k12]
  · simp only [g_X9_back, bnd_eq]
    rw [kf 55 (by omega) (by omega) (by omega) (by omega) (by omega), k3, if_neg (by rw [li0]; exact fun q => hw ((nI_eq (by omega) (by omega)).mp q)), li1, nI_add, show 1 + (v + 1) = 2 + v by omega, show g_X9_copy 100 (nI (2 + v)) 0 K = some J2 from b1]
    dsimp only
    rw [b6 55 (by omega) (by omega) (by omega), kf 55 (by omega) (by omega) (by omega) (by omega) (by omega), k3, show g_X9_copyCounts 100 (nI (v + 1)) 0 J2 = some J3 from d1]
    dsimp only
    rw [q55, k3, show nI (v + 1) - nI 1 = nI v from e1, ← hM, m24]
  · refine ⟨hp, TxI_congr (m3 _ (by omega)) (m3 _ (by omega)) (m55 _ (by omega) (by omega)) (m3 _ (by omega)) tx, by rw [m55 _ (by omega) (by omega)]; exact hl, π, hv, PlC_congr (fun j hj => m3 _ (by omega)) pc, fun x hx => by rw [m3 _ (by omega)]; exact tu x hx, PlM_congr (by omega) (fun j _ _ => m3 _ (by omega)) pm, ⟨sa', U', m', ⟨y1, y2, y3, ?_, ?_⟩, 0, e, by omega, ?_, m25, fun k hk => by omega, trivial⟩, zs v, ta, ⟨by omega, ?_, ?_, fun k hk => ?_⟩, v, zs, by omega, ?_, m24, fun j hj => ?_⟩
    · refine ShC_congr ?_ ?_ a2 <;> rw [mf _ (by omega), j3 _ (by omega) (by omega) (by omega) (by omega) (by omega), hK, up2_i _ _ (by omega), up2_i _ _ (by omega)]
    · exact ShM_congr hG (fun x _ _ => by rw [mf _ (by omega), d6 _ (by omega) (by omega)]) (fun x _ _ => by rw [mf _ (by omega), d6 _ (by omega) (by omega)]) (by rw [mf _ (by omega), d6 _ (by omega) (by omega)]) b2
    · rw [mf _ (by omega), j3 _ (by omega) (by omega) (by omega) (by omega) (by omega), hK, up2_s]; rfl
    · rw [mf _ (by omega), j3 _ (by omega) (by omega) (by omega) (by omega) (by omega), hK, up2_i _ _ (by omega), up2_s]
    · rw [mf _ (by omega), d2, b6 _ (by omega) (by omega) (by omega), kf _ (by omega) (by omega) (by omega) (by omega) (by omega), Nat.add_comm v 1]; exact x4
    · have h78 : J2 78 = I 78 := by rw [b6 _ (by omega) (by omega) (by omega), kf _ (by omega) (by omega) (by omega) (by omega) (by omega)]
      have hh := t4 k (by omega)
      have hx := x5 k hk
      have n0 := d4 (3 * k) (by omega)
      have n1 := d4 (3 * k + 1) (by omega)
      have n2 := d4 (3 * k + 2) (by omega)
      rw [Nat.mul_zero, Nat.zero_add, Nat.add_comm v 1] at n0 n1 n2
      rw [m3 41 (by omega), m3 42 (by omega), m3 43 (by omega), mf 78 (by omega), n0, n1, n2, h78]
      exact ⟨hh.1, hh.2.1, hh.2.2.1, hh.2.2.2.1, hh.2.2.2.2.1, hh.2.2.2.2.2.1, hx.1, hx.2.1, hx.2.2⟩
    · rw [mf _ (by omega), j3 _ (by omega) (by omega) (by omega) (by omega) (by omega)]; exact k12
    · obtain ⟨c1, c2, c3, c4, c5, sb, Ub, mb, c6⟩ := k4 j (by omega)
      refine ⟨x2 j hj, c2, by rw [m3 _ (by omega)]; exact c3, by rw [q77 _ (by omega)]; exact c4, fun k hk => ?_, sb, Ub, mb, ShI_congr hG (m3 _ (by omega)) (m3 _ (by omega)) (fun x _ h => q74 x (by omega)) (fun x _ h => q75 x (by omega)) (q76 _ (by omega)) c6⟩
      rw [q78 _ (by omega), q78 _ (by omega), q78 _ (by omega)]
      exact c5 k hk
