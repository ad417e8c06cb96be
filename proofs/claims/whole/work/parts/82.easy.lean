/-! The calls that ask, and some that change little. -/
theorem in_01 {n : Nat} {a : Int32} {I : IH} : g_X9_in n (Int32.toInt64 a) 0 1 I = some (if 0 ≤ a ∧ a ≤ 1 then 1 else 0, I) := by rw [j0, j1]; exact m_in
theorem in_02 {n : Nat} {a : Int32} {I : IH} : g_X9_in n (Int32.toInt64 a) 0 2 I = some (if 0 ≤ a ∧ a ≤ 2 then 1 else 0, I) := by rw [j0, j2]; exact m_in
theorem in_03 {n : Nat} {a : Int32} {I : IH} : g_X9_in n (Int32.toInt64 a) 0 3 I = some (if 0 ≤ a ∧ a ≤ 3 then 1 else 0, I) := by rw [j0, j3]; exact m_in
theorem in_05 {n : Nat} {a : Int32} {I : IH} : g_X9_in n (Int32.toInt64 a) 0 5 I = some (if 0 ≤ a ∧ a ≤ 5 then 1 else 0, I) := by rw [j0, j5]; exact m_in
theorem in_099 {n : Nat} {a : Int32} {I : IH} : g_X9_in n (Int32.toInt64 a) 0 99 I = some (if 0 ≤ a ∧ a ≤ 99 then 1 else 0, I) := by rw [j0, j99]; exact m_in
theorem in_02000 {n : Nat} {a : Int32} {I : IH} : g_X9_in n (Int32.toInt64 a) 0 2000 I = some (if 0 ≤ a ∧ a ≤ 2000 then 1 else 0, I) := by rw [j0, j2000]; exact m_in
theorem in_09999 {n : Nat} {a : Int32} {I : IH} : g_X9_in n (Int32.toInt64 a) 0 9999 I = some (if 0 ≤ a ∧ a ≤ 9999 then 1 else 0, I) := by rw [j0, j9999]; exact m_in
theorem in_19999 {n : Nat} {a : Int32} {I : IH} : g_X9_in n (Int32.toInt64 a) 1 9999 I = some (if 1 ≤ a ∧ a ≤ 9999 then 1 else 0, I) := by rw [j1, j9999]; exact m_in
theorem in_1999 {n : Nat} {a : Int32} {I : IH} : g_X9_in n (Int32.toInt64 a) 1 999 I = some (if 1 ≤ a ∧ a ≤ 999 then 1 else 0, I) := by rw [j1, j999]; exact m_in
theorem in_18 {n : Nat} {a : Int32} {I : IH} : g_X9_in n (Int32.toInt64 a) 1 8 I = some (if 1 ≤ a ∧ a ≤ 8 then 1 else 0, I) := by rw [j1, j8]; exact m_in
theorem in_13 {n : Nat} {a : Int32} {I : IH} : g_X9_in n (Int32.toInt64 a) 1 3 I = some (if 1 ≤ a ∧ a ≤ 3 then 1 else 0, I) := by rw [j1, j3]; exact m_in
theorem in_1200 {n : Nat} {a : Int32} {I : IH} : g_X9_in n (Int32.toInt64 a) 1 200 I = some (if 1 ≤ a ∧ a ≤ 200 then 1 else 0, I) := by rw [j1, j200]; exact m_in
/-- from 1 on -/
theorem rng1_of {a hi : Int32} {N : Nat} (hN : hi = nI N) (hN2 : N < 2 ^ 31) (h : 1 ≤ a ∧ a ≤ hi) : ∃ x, 1 ≤ x ∧ x ≤ N ∧ a = nI x := by
  obtain ⟨x, hx, e⟩ := rng_of hN hN2 ⟨by have := h.1; rw [Int32.le_iff_toInt_le] at *; rw [show (0 : Int32).toInt = 0 from rfl]; rw [show (1 : Int32).toInt = 1 from rfl] at this; omega, h.2⟩
  refine ⟨x, ?_, hx, e⟩
  by_cases h0 : x = 0
  · subst h0
    subst e
    exact absurd h.1 (by decide)
  · omega
theorem ShI_V {I : IH} {s k : Nat} {π : Pln} {sa : Nat → Nat} {U m : Nat} (h : ShI I s k π sa U m) : ShV (π 0 0) sa U m := by
  obtain ⟨a, b, c, -⟩ := h
  exact ⟨a, by omega, fun b hb => Nat.le_trans (tot_ge _ hb) (by omega)⟩
theorem Inv_tx {p : Nat} {I I' : IH} (h : Inv p I) (hs : ∀ id, id ≠ 1 → id ≠ 2 → id ≠ 55 → id ≠ 56 → I' id = I id) (h55 : ∀ j, j ≠ 0 → I' 55 j = I 55 j) (ht : TxI I') : Inv p I' := by
  obtain ⟨hp, tx, hl, π, hv, pc, tu, pm, ⟨sa, U, m, sh, un⟩, z, ta, ti, ki⟩ := h
  have hG := hv.2.1
  have s : ∀ id, id ≠ 1 ∧ id ≠ 2 ∧ id ≠ 55 ∧ id ≠ 56 → I' id = I id := fun id h => hs id h.1 h.2.1 h.2.2.1 h.2.2.2
  refine ⟨hp, ht, by rw [h55 _ (by omega)]; exact hl, π, hv, PlC_congr (fun j hj => s _ (by omega)) pc, fun x hx => by rw [s _ (by omega)]; exact tu x hx, PlM_congr (by omega) (fun j _ _ => s _ (by omega)) pm, ⟨sa, U, m, ShI_congr hG (s _ (by omega)) (s _ (by omega)) (fun j _ h => by rw [s _ (by omega)]) (fun j _ h => by rw [s _ (by omega)]) (by rw [s _ (by omega)]) sh, UnI_congr (fun j _ _ => s _ (by omega)) (s _ (by omega)) (h55 _ (by omega)) un⟩, z, ta, TaI_congr (fun j _ _ => s _ (by omega)) (by rw [s _ (by omega)]) (fun j _ => by rw [s _ (by omega)]) ti, KpI_congr hG (by rw [s _ (by omega)]) (h55 _ (by omega)) (fun j _ _ => s _ (by omega)) (fun j _ => by rw [s _ (by omega)]) (fun j _ => by rw [s _ (by omega)]) (fun j hj => by rw [s _ (by omega)]) (fun j hj => by rw [s _ (by omega)]) (fun j hj => by rw [s _ (by omega)]) ki⟩
theorem o_wipe : op_wipe Inv := by
  intro p I h
  have h0 := h
  obtain ⟨hp, ⟨len, t1, t2, t3, t4⟩, hl, rest⟩ := h
  refine ⟨0, 0, nI len, up2 I 1 1 0, up2 (up2 I 1 1 0) 55 0 0, ?_, ?_, ?_⟩
  · simp only [g_X8_wipe, bnd_eq, t2]
  · simp only [g_X9_wipe, bnd_eq]
    rw [up2_i I _ (by omega), t3]
  · refine Inv_tx h0 (fun id a b c d => by rw [up2_i _ _ c, up2_i _ _ a]) (fun j hj => by rw [up2_j _ _ hj, up2_i _ _ (by omega)]) ⟨0, by omega, by rw [up2_i _ _ (by omega), up2_s]; rfl, by rw [up2_s]; rfl, fun j hj => by omega⟩
theorem o_count : op_count Inv := by
  intro p I a0 h
  have h0 := h
  obtain ⟨hp, ⟨len, t1, t2, t3, t4⟩, hl, π, hv, pc, tu, pm, ⟨sa, U, m, sh, z1, e1, un1, un2, un3, -⟩, z, ta, ti, w, zs, ki1, ki2, ki3, -⟩ := h
  have e0 : I 57 0 = I p 0 := by rw [pm.1, pc.1]
  have e1 : I 68 0 = I p 11 := by rw [pm.2.2.2.2.1, pc.2.2.2.1]
  have e2 : I 65 0 = I p 8 := by rw [pm.2.2.1, pc.2.2.1]
  have e3 : I 76 0 = I 31 2 := by rw [sh.2.2.2.2.1, sh.2.2.2.1.2.1]
  have e4 : I 55 25 = I 35 0 := by rw [un2, un3]
  have e5 : I 77 0 = I 40 0 := by rw [ti.2.1, ti.2.2.1]
  have e6 : I 55 0 = I 1 1 := by rw [t2, t3]
  have e7 : I 55 24 = I 0 12 := by rw [ki2, ki3]
  have hq : g_X9_count 0 a0 I = g_X8_count 0 p a0 I := by
    simp only [g_X8_count, g_X9_count, bnd_eq, e0, e1, e2, e3, e4, e5, e6, e7]
  have hr : ∃ r, g_X8_count 0 p a0 I = some (r, I) := by
    simp only [g_X8_count]
    by_cases c0 : a0 = 0
    · exact ⟨_, if_pos c0⟩
    · rw [if_neg c0]
      by_cases c1 : a0 = 1
      · exact ⟨_, if_pos c1⟩
      · rw [if_neg c1]
        by_cases c2 : a0 = 2
        · exact ⟨_, if_pos c2⟩
        · rw [if_neg c2]
          by_cases c3 : a0 = 3
          · exact ⟨_, if_pos c3⟩
          · rw [if_neg c3]
            by_cases c4 : a0 = 4
            · exact ⟨_, if_pos c4⟩
            · rw [if_neg c4]
              by_cases c5 : a0 = 5
              · exact ⟨_, if_pos c5⟩
              · rw [if_neg c5]
                by_cases c6 : a0 = 6
                · exact ⟨_, if_pos c6⟩
                · rw [if_neg c6]
                  by_cases c7 : a0 = 7
                  · exact ⟨_, if_pos c7⟩
                  · rw [if_neg c7]
                    exact ⟨_, rfl⟩
  obtain ⟨r, hr⟩ := hr
  exact ⟨0, 0, r, I, I, hr, hq.trans hr, h0⟩
theorem o_has : op_has Inv := by
  intro p I a0 h
  have h0 := h
  obtain ⟨hp, tx, hl, π, hv, pc, tu, pm, ⟨sa, U, m, sh, un⟩, z, ta, ti, ki⟩ := h
  by_cases hc : 0 ≤ a0 ∧ a0 ≤ 5
  · obtain ⟨x, hx, rfl⟩ := rng_of (N := 5) rfl (by omega) hc
    refine ⟨9, 9, nI (hss π sa x (π 0 0)), I, I, ?_, ?_, h0⟩
    · simp only [g_X8_has]
      rw [c_isHand]
      dsimp only
      rw [r01, if_pos hc, c_has (by omega) hv pc sh.2.2.2.1 (ShI_V sh) hx]
    · simp only [g_X9_has]
      rw [m_isHand]
      dsimp only
      rw [r01, if_pos hc, show g_X9_hasOf 9 0 (nI x) I = _ from m_has (b := 0) (n := 9) (by omega) (by omega) hv pm sh.2.2.2.2 (ShI_V sh) hx]
  · refine ⟨0, 0, -1, I, I, ?_, ?_, h0⟩
    · simp only [g_X8_has]
      rw [c_isHand]
      dsimp only
      rw [r01, if_neg hc]
    · simp only [g_X9_has]
      rw [m_isHand]
      dsimp only
      rw [r01, if_neg hc]
theorem o_glass : op_glass Inv := by
  intro p I a0 a1 h
  have h0 := h
  obtain ⟨hp, tx, hl, π, hv, pc, tu, pm, ⟨sa, U, m, sh, un⟩, z, ta, ti, ki⟩ := h
  have hG1 := hv.1
  have hG := hv.2.1
  by_cases hc : 0 ≤ a0 ∧ a0 ≤ nI (π 0 0) - 1
  · obtain ⟨x, hx, rfl⟩ := gl_of hG1 hG hc
    have c1 := pc.2.1 x hx
    have m1 := pm.2.1 x hx
    simp only [Nat.mul_zero, Nat.zero_add] at m1
    have hb := bU_lt U x
    obtain ⟨s1, s2, s3, ⟨s4, s5, s6⟩, s7, s8, s9⟩ := sh
    simp only [Nat.mul_zero, Nat.zero_add] at s8 s9
    have key : ∀ (r : Int32), (g_X8_glass 0 p (nI x) a1 I = some (r, I)) → (g_X9_glass 0 (nI x) a1 I = some (r, I)) → ∃ (n1 n2 : Nat) (r : Int32) (I1 I2 : IH), g_X8_glass n1 p (nI x) a1 I = some (r, I1) ∧ g_X9_glass n2 (nI x) a1 I1 = some (r, I2) ∧ Inv p I2 := fun r q1 q2 => ⟨0, 0, r, I, I, q1, q2, h0⟩
    by_cases hw : 0 ≤ a1 ∧ a1 ≤ 5
    · have hw1 := hw
      obtain ⟨y, hy, rfl⟩ := rng_of (N := 5) rfl (by omega) hw
      have C : g_X8_glass 0 p (nI x) (nI y) I = g_X8_glass 0 p (nI x) (nI y) I := rfl
      simp only [g_X8_glass, g_X8_glass_48, g_X5_upperSide, bnd_eq] at C
      rcases (by omega : y = 0 ∨ y = 1 ∨ y = 2 ∨ y = 3 ∨ y = 4 ∨ y = 5) with e | e | e | e | e | e <;> subst e
      · refine key (nI (sa (2 * x))) ?_ ?_
        · simp only [g_X8_glass, g_X8_glass_48, bnd_eq]
          rw [c_isGlass, pc.1]
          dsimp only
          rw [r01, if_pos hc, if_pos (by decide), li2, pk_mul, nI_add, Nat.add_zero, inB_t (by omega) (by omega), if_pos rfl, nI_clamp (by omega), s6 _ (by omega)]
        · simp only [g_X9_glass, bnd_eq]
          rw [m_isGlass, pm.1]
          dsimp only
          rw [r01, if_pos hc, in_05]
          dsimp only
          rw [r01, if_pos hw1, if_pos (by decide), li2, pk_mul, inB_t (by omega) (by omega), if_pos rfl, nI_clamp (by omega), s9 _ (by omega)]
      · refine key (nI (sa (2 * x + 1))) ?_ ?_
        · simp only [g_X8_glass, g_X8_glass_48, bnd_eq]
          rw [c_isGlass, pc.1]
          dsimp only
          rw [r01, if_pos hc, if_neg (by decide), if_pos (by decide), li2, pk_mul, nI_add, inB_t (by omega) (by omega), if_pos rfl, nI_clamp (by omega), s6 _ (by omega)]
        · simp only [g_X9_glass, bnd_eq]
          rw [m_isGlass, pm.1]
          dsimp only
          rw [r01, if_pos hc, in_05]
          dsimp only
          rw [r01, if_pos hw1, if_neg (by decide), if_pos (by decide), li2, pk_mul, nI_1, inB_t (by omega) (by omega), if_pos rfl, nI_clamp (by omega), s9 _ (by omega)]
      · refine key (nI (bU U x)) ?_ ?_
        · simp only [g_X8_glass, g_X5_upperSide, bnd_eq]
          rw [c_isGlass, pc.1]
          dsimp only
          rw [r01, if_pos hc, if_neg (by decide), if_neg (by decide), if_pos (by decide), s4, nI_bit (by omega) (by omega)]
        · simp only [g_X9_glass, bnd_eq]
          rw [m_isGlass, pm.1]
          dsimp only
          rw [r01, if_pos hc, in_05]
          dsimp only
          rw [r01, if_pos hw1, if_neg (by decide), if_neg (by decide), if_pos (by decide), inB_t (by omega) (by omega), if_pos rfl, nI_clamp (by omega), s8 _ hx]
      · refine key (nI (π 1 x)) ?_ ?_
        · simp only [g_X8_glass, bnd_eq]
          rw [c_isGlass, pc.1]
          dsimp only
          rw [r01, if_pos hc, if_neg (by decide), if_neg (by decide), if_neg (by decide), if_pos (by decide), inB_t (by omega) (by omega), if_pos rfl, nI_clamp (by omega), c1.1]
        · simp only [g_X9_glass, bnd_eq]
          rw [m_isGlass, pm.1]
          dsimp only
          rw [r01, if_pos hc, in_05]
          dsimp only
          rw [r01, if_pos hw1, if_neg (by decide), if_neg (by decide), if_neg (by decide), if_pos (by decide), inB_t (by omega) (by omega), if_pos rfl, nI_clamp (by omega), m1.1]
      · refine key (nI (π 2 x)) ?_ ?_
        · simp only [g_X8_glass, bnd_eq]
          rw [c_isGlass, pc.1]
          dsimp only
          rw [r01, if_pos hc, if_neg (by decide), if_neg (by decide), if_neg (by decide), if_neg (by decide), if_pos (by decide), inB_t (by omega) (by omega), if_pos rfl, nI_clamp (by omega), c1.2.1]
        · simp only [g_X9_glass, bnd_eq]
          rw [m_isGlass, pm.1]
          dsimp only
          rw [r01, if_pos hc, in_05]
          dsimp only
          rw [r01, if_pos hw1, if_neg (by decide), if_neg (by decide), if_neg (by decide), if_neg (by decide), if_pos (by decide), inB_t (by omega) (by omega), if_pos rfl, nI_clamp (by omega), m1.2.1]
      · refine key (nI (π 3 x)) ?_ ?_
        · simp only [g_X8_glass, bnd_eq]
          rw [c_isGlass, pc.1]
          dsimp only
          rw [r01, if_pos hc, if_neg (by decide), if_neg (by decide), if_neg (by decide), if_neg (by decide), if_neg (by decide), if_pos (by decide), inB_t (by omega) (by omega), if_pos rfl, nI_clamp (by omega), c1.2.2.1]
        · simp only [g_X9_glass, bnd_eq]
          rw [m_isGlass, pm.1]
          dsimp only
          rw [r01, if_pos hc, in_05]
          dsimp only
          rw [r01, if_pos hw1, if_neg (by decide), if_neg (by decide), if_neg (by decide), if_neg (by decide), if_neg (by decide), inB_t (by omega) (by omega), if_pos rfl, nI_clamp (by omega), m1.2.2.1]
    · have ne : ∀ c : Int32, 0 ≤ c ∧ c ≤ 5 → ¬ a1 = c := fun c q e => hw (e ▸ q)
      refine key (-1) ?_ ?_
      · simp only [g_X8_glass, bnd_eq]
        rw [c_isGlass, pc.1]
        dsimp only
        rw [r01, if_pos hc, if_neg (ne 0 (by decide)), if_neg (ne 1 (by decide)), if_neg (ne 2 (by decide)), if_neg (ne 3 (by decide)), if_neg (ne 4 (by decide)), if_neg (ne 5 (by decide))]
      · simp only [g_X9_glass, bnd_eq]
        rw [m_isGlass, pm.1]
        dsimp only
        rw [r01, if_pos hc, in_05]
        dsimp only
        rw [r01, if_neg hw]
  · refine ⟨0, 0, -1, I, I, ?_, ?_, h0⟩
    · simp only [g_X8_glass]
      rw [c_isGlass, pc.1]
      dsimp only
      rw [r01, if_neg hc]
    · simp only [g_X9_glass]
      rw [m_isGlass, pm.1]
      dsimp only
      rw [r01, if_neg hc]
