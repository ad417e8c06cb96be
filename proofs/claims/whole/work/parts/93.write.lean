/-! write -/
theorem byt (w : Int64) : (Int32.toInt8 (Int64.toInt32 w)).toInt32 &&& 255 = Int64.toInt32 (w &&& 255) := by
  apply Int32.toBitVec_inj.1
  apply BitVec.eq_of_getLsbD_eq
  intro i hi
  have h1 : ∀ i, i < 32 → (255#32).getLsbD i = decide (i < 8) := by decide +kernel
  have h2 : ∀ i, i < 32 → (255#64).getLsbD i = decide (i < 8) := by decide +kernel
  show (((w.toBitVec.signExtend 32).signExtend 8).signExtend 32 &&& 255#32).getLsbD i = ((w.toBitVec &&& 255#64).signExtend 32).getLsbD i
  simp only [BitVec.getLsbD_and, BitVec.getLsbD_signExtend, h1 i hi, h2 i hi]
  by_cases h8 : i < 8
  · simp [h8, hi, show i < 64 by omega]
  · simp [h8, hi, show i < 64 by omega]
theorem byw (w : Int64) : ∃ b, b < 256 ∧ vp_nar .byte (Int32.toInt8 (Int64.toInt32 w)).toInt32 &&& 255 = nI b ∧ Int64.toInt32 (w &&& 255) = nI b := by
  rw [pk_vb, ← byt, pk_and (Int32.toInt8 (Int64.toInt32 w)).toInt32 8 (by decide +kernel)]
  exact ⟨_, Nat.mod_lt _ (by omega), rfl, rfl⟩
theorem c_app {v : Int64} : ∀ (d n : Nat) (J : IH) (len : Nat), len + d ≤ 400 → d < n → J 1 1 = nI len →
    ∃ I', g_X7_append_5 n v (nI d - 1) J = some I' ∧ I' 1 1 = nI (len + d) ∧ (∀ j, j < len → I' 2 j = J 2 j) ∧ (∀ j, j < d → I' 2 (len + j) = vp_nar .byte (Int32.toInt8 (Int64.toInt32 (v >>> (Int32.toInt64 (8 * nI (d - 1 - j)) &&& 63)))).toInt32) ∧ ∀ id, id ≠ 1 → id ≠ 2 → I' id = J id := by
  intro d
  induction d with
  | zero =>
    intro n J len hl hn h
    obtain ⟨n, rfl⟩ : ∃ k, n = k + 1 := ⟨n - 1, by omega⟩
    simp only [g_X7_append_5]
    rw [if_pos (by decide)]
    exact ⟨J, rfl, h, fun _ _ => rfl, fun j hj => by omega, fun _ _ _ => rfl⟩
  | succ d ih =>
    intro n J len hl hn h
    obtain ⟨n, rfl⟩ : ∃ k, n = k + 1 := ⟨n - 1, by omega⟩
    obtain ⟨I', k1, k2, k3, k4, k5⟩ := ih n (up2 (up2 J 2 len (vp_nar .byte (Int32.toInt8 (Int64.toInt32 (v >>> (Int32.toInt64 (8 * nI d) &&& 63)))).toInt32)) 1 1 (nI (len + 1))) (len + 1) (by omega) (by omega) (up2_s _ _ _ _)
    refine ⟨I', ?_, by rw [k2, show len + 1 + d = len + (d + 1) by omega], fun j hj => ?_, fun j hj => ?_, fun id w1 w2 => by rw [k5 id w1 w2, up2_i _ _ w1, up2_i _ _ w2]⟩
    · simp only [g_X7_append_5, bnd_eq]
      rw [nI_pred, if_neg (nI_pos (by omega)), h, if_neg (by rw [show (400 : Int32) = nI 400 from rfl]; exact nI_ge (by omega) (by omega)), inB_t (by omega : len < 400) (by omega), if_pos rfl, nI_clamp (by omega), up2_i _ _ (by omega : (1 : Nat) ≠ 2), h, nI_1, show nI d + (-1) = nI d - 1 from (Int32.sub_eq_add_neg (nI d) 1).symm]
      exact k1
    · rw [k3 j (by omega), up2_i _ _ (by omega), up2_j _ _ (by omega)]
    · by_cases c : j = 0
      · subst c
        rw [k3 _ (by omega), up2_i _ _ (by omega), Nat.add_zero, up2_s, show d + 1 - 1 - 0 = d by omega]
      · have := k4 (j - 1) (by omega)
        rw [show len + 1 + (j - 1) = len + j by omega, show d - 1 - (j - 1) = d + 1 - 1 - j by omega] at this
        exact this
theorem m_app {v : Int64} : ∀ (d n : Nat) (J : IH) (len : Nat), len + d ≤ 400 → d < n → J 55 0 = nI len →
    ∃ I', g_X9_write_34 n v (nI d - 1) J = some (nI (len + d), I') ∧ I' 55 0 = nI (len + d) ∧ (∀ j, j < len → I' 56 j = J 56 j) ∧ (∀ j, j < d → I' 56 (len + j) = Int64.toInt32 ((v >>> (Int32.toInt64 (8 * nI (d - 1 - j)) &&& 63)) &&& 255)) ∧ (∀ j, j ≠ 0 → I' 55 j = J 55 j) ∧ ∀ id, id ≠ 55 → id ≠ 56 → I' id = J id := by
  intro d
  induction d with
  | zero =>
    intro n J len hl hn h
    obtain ⟨n, rfl⟩ : ∃ k, n = k + 1 := ⟨n - 1, by omega⟩
    simp only [g_X9_write_34]
    rw [if_pos (by decide), h]
    exact ⟨J, rfl, h, fun _ _ => rfl, fun j hj => by omega, fun _ _ => rfl, fun _ _ _ => rfl⟩
  | succ d ih =>
    intro n J len hl hn h
    obtain ⟨n, rfl⟩ : ∃ k, n = k + 1 := ⟨n - 1, by omega⟩
    obtain ⟨I', k1, k2, k3, k4, k5, k6⟩ := ih n (up2 (up2 J 56 len (Int64.toInt32 ((v >>> (Int32.toInt64 (8 * nI d) &&& 63)) &&& 255))) 55 0 (nI (len + 1))) (len + 1) (by omega) (by omega) (up2_s _ _ _ _)
    rw [show len + 1 + d = len + (d + 1) by omega] at k1
    refine ⟨I', ?_, by rw [k2, show len + 1 + d = len + (d + 1) by omega], fun j hj => ?_, fun j hj => ?_, fun j hj => by rw [k5 j hj, up2_j _ _ hj, up2_i _ _ (by omega)], fun id w1 w2 => by rw [k6 id w1 w2, up2_i _ _ w1, up2_i _ _ w2]⟩
    · simp only [g_X9_write_34, bnd_eq]
      rw [nI_pred, if_neg (nI_pos (by omega)), h, inB_t (by omega : len < 400) (by omega), if_pos rfl, nI_clamp (by omega), up2_i _ _ (by omega : (55 : Nat) ≠ 56), h, nI_1, show nI d + (-1) = nI d - 1 from (Int32.sub_eq_add_neg (nI d) 1).symm]
      exact k1
    · rw [k3 j (by omega), up2_i _ _ (by omega), up2_j _ _ (by omega)]
    · by_cases c : j = 0
      · subst c
        rw [k3 _ (by omega), up2_i _ _ (by omega), Nat.add_zero, up2_s, show d + 1 - 1 - 0 = d by omega]
      · have := k4 (j - 1) (by omega)
        rw [show len + 1 + (j - 1) = len + j by omega, show d - 1 - (j - 1) = d + 1 - 1 - j by omega] at this
        exact this
theorem o_write : op_write Inv := by
  intro p I a0 a1 h
  have h0 := h
  obtain ⟨hp, ⟨len, t1, t2, t3, t4⟩, hl, rest⟩ := h
  by_cases hc0 : 1 ≤ a0 ∧ a0 ≤ 8
  case neg =>
    refine ⟨0, 0, -1, I, I, ?_, ?_, h0⟩
    · simp only [g_X8_write]
      rw [c_within]
      dsimp only
      rw [r01, if_neg hc0]
    · simp only [g_X9_write]
      rw [in_18]
      dsimp only
      rw [r01, if_neg hc0]
  obtain ⟨x, hx1, hx, rfl⟩ := rng1_of (N := 8) rfl (by omega) hc0
  by_cases hc1 : len + x ≤ 400
  · obtain ⟨J1, b1, b2, b3, b4, b5⟩ := c_app (v := a1) x 20 I len hc1 (by omega) t2
    obtain ⟨J2, d1, d2, d3, d4, d5, d6⟩ := m_app (v := a1) x 20 J1 len hc1 (by omega) (by rw [b5 _ (by omega) (by omega)]; exact t3)
    refine ⟨20, 20, nI (len + x), J1, J2, ?_, ?_, ?_⟩
    · simp only [g_X8_write, g_X7_append, bnd_eq]
      rw [c_within]
      dsimp only
      rw [r01, if_pos hc0, t2, nI_add, if_pos (by rw [show (400 : Int32) = nI 400 from rfl]; exact nI_le hc1 (by omega)), b1]
      dsimp only
      rw [b2]
    · simp only [g_X9_write, bnd_eq]
      rw [in_18]
      dsimp only
      rw [r01, if_pos hc0, b5 _ (by omega) (by omega), t3, nI_add, if_pos (by rw [show (400 : Int32) = nI 400 from rfl]; exact nI_le hc1 (by omega)), d1]
    · refine Inv_tx h0 (fun id w1 w2 w3 w4 => by rw [d6 id w3 w4, b5 id w1 w2]) (fun j hj => by rw [d5 j hj, b5 _ (by omega) (by omega)]) ⟨len + x, hc1, ?_, d2, fun j hj => ?_⟩
      · rw [d6 _ (by omega) (by omega)]; exact b2
      · rw [d6 2 (by omega) (by omega)]
        by_cases c : j < len
        · rw [b3 j c, d3 j c, b5 _ (by omega) (by omega)]
          exact t4 j c
        · obtain ⟨b, hb, e1, e2⟩ := byw (a1 >>> (Int32.toInt64 (8 * nI (x - 1 - (j - len))) &&& 63))
          refine ⟨b, hb, ?_, ?_⟩
          · have := b4 (j - len) (by omega)
            rw [show len + (j - len) = j by omega] at this
            rw [this]
            exact e1
          · have := d4 (j - len) (by omega)
            rw [show len + (j - len) = j by omega] at this
            rw [this]
            exact e2
  · refine ⟨0, 0, -3, I, I, ?_, ?_, h0⟩
    · simp only [g_X8_write]
      rw [c_within]
      dsimp only
      rw [r01, if_pos hc0, t2, nI_add, if_neg (by rw [show (400 : Int32) = nI 400 from rfl]; exact nI_ge (by omega) (by omega))]
    · simp only [g_X9_write]
      rw [in_18]
      dsimp only
      rw [r01, if_pos hc0, t3, nI_add, if_neg (by rw [show (400 : Int32) = nI 400 from rfl]; exact nI_ge (by omega) (by omega))]
