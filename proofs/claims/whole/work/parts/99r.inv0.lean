/-! the start -/
def pl0 : Pln := fun f _ => if f = 0 then 1 else if f = 2 then 2 else if f = 5 then 1 else if f = 6 then 20 else 0
theorem I0_a : I0 1 1 = 0 ∧ I0 55 0 = 0 ∧ I0 55 29 = -4 ∧ I0 31 1 = 0 ∧ I0 31 2 = 0 ∧ I0 32 0 = 20 ∧ I0 32 1 = 0 ∧ I0 76 0 = 0 ∧ I0 75 0 = 0 ∧ I0 74 0 = 20 ∧ I0 74 1 = 0 ∧ I0 35 0 = 0 ∧ I0 55 25 = 0 ∧ I0 40 0 = 0 ∧ I0 77 0 = 0 ∧ I0 0 12 = 0 ∧ I0 55 24 = 0 := by decide +kernel
theorem I0_c : I0 5 0 = nI 1 ∧ I0 6 0 = nI 0 ∧ I0 7 0 = nI 2 ∧ I0 8 0 = nI 0 ∧ I0 9 0 = nI 0 ∧ I0 9 1 = nI 1 ∧ I0 10 0 = nI 20 ∧ I0 10 1 = nI 0 ∧ I0 11 0 = nI 2 ∧ I0 12 0 = nI 2 ∧ I0 13 0 = nI 0 ∧ I0 5 8 = nI 0 ∧ I0 5 11 = nI 0 ∧ I0 5 15 = nI 0 ∧ I0 5 16 = nI 0 ∧ I0 14 0 = nI 1 := by decide +kernel
theorem I0_m : I0 57 0 = nI 1 ∧ I0 58 0 = nI 0 ∧ I0 61 0 = nI 2 ∧ I0 64 0 = nI 0 ∧ I0 59 0 = nI 0 ∧ I0 60 0 = nI 1 ∧ I0 62 0 = nI 20 ∧ I0 63 0 = nI 0 ∧ I0 65 0 = nI 0 ∧ I0 68 0 = nI 0 ∧ I0 72 0 = nI 0 ∧ I0 73 0 = nI 0 := by decide +kernel
theorem pl0_G : pl0 0 0 = 1 := rfl
theorem pl0_T : pl0 8 0 = 0 := rfl
theorem pl0_C : pl0 11 0 = 0 := rfl
theorem pl0_V : PV pl0 := by
  refine ⟨by decide, by decide, fun i _ => ⟨?_, ?_, ?_, ?_, ?_, ?_, ?_, ?_⟩, by decide, fun k hk => ?_, by decide, fun k hk => ?_, by decide, by decide⟩
  · exact (by decide : 0 ≤ 3)
  · exact (by decide : 1 ≤ 2)
  · exact (by decide : 2 ≤ 60)
  · exact (by decide : 0 ≤ 5)
  · exact (by decide : 0 ≤ 5)
  · exact (by decide : 1 ≤ 5)
  · exact (by decide : 20 ≤ 999)
  · exact (by decide : 0 ≤ 999)
  · exact absurd hk (Nat.not_lt_zero _)
  · exact absurd hk (Nat.not_lt_zero _)
theorem pl0_cl : cl pl0 0 = 1 := by decide +kernel
theorem inv0 : Inv 5 I0 := by
  obtain ⟨a1, a2, a3, a4, a5, a6, a7, a8, a9, a10, a11, a12, a13, a14, a15, a16, a17⟩ := I0_a
  obtain ⟨c1, c2, c3, c4, c5, c6, c7, c8, c9, c10, c11, c12, c13, c14, c15, c16⟩ := I0_c
  obtain ⟨m1, m2, m3, m4, m5, m6, m7, m8, m9, m10, m11, m12⟩ := I0_m
  have one : ∀ i, i < pl0 0 0 → i = 0 := fun i hi => by rw [pl0_G] at hi; omega
  refine ⟨Or.inl rfl, ⟨0, by omega, a1, a2, fun j hj => absurd hj (Nat.not_lt_zero _)⟩, a3, pl0, pl0_V, ⟨c1, fun i hi => ?_, c12, c13, fun k hk => absurd hk (Nat.not_lt_zero _), c14, c15⟩, fun x hx => ?_, ⟨m1, fun i hi => ?_, m9, fun k hk => absurd hk (Nat.not_lt_zero _), m10, fun k hk => absurd hk (Nat.not_lt_zero _), m11, m12⟩, ⟨tld pl0, 0, 0, ⟨by omega, by omega, ?_, ⟨a4, a5, fun b hb => ?_⟩, ⟨a8, fun i hi => ?_, fun b hb => ?_⟩⟩, 0, fun _ => (0, 0, 0), by omega, a12, a13, fun k hk => absurd hk (Nat.not_lt_zero _), trivial⟩, 0, fun _ _ => 0, ⟨by omega, a14, a15, fun k hk => absurd hk (Nat.not_lt_zero _)⟩, 0, fun _ => 0, by omega, a16, a17, fun k hk => absurd hk (Nat.not_lt_zero _)⟩
  · rw [one i hi]
    exact ⟨c2, c3, c4, c5, c6, c7, c8, c9, c10, c11⟩
  · rw [one x hx, pl0_cl]
    exact c16
  · rw [one i hi]
    exact ⟨m2, m3, m4, m5, m6, m7, m8⟩
  · have := tld_tot pl0_V (pl0 0 0) (Nat.le_refl _)
    have e := pl0_G
    omega
  · rw [pl0_G] at hb
    rcases (by omega : b = 0 ∨ b = 1) with e | e <;> subst e
    · exact a6
    · exact a7
  · rw [one i hi, bU_0]
    exact a9
  · rw [pl0_G] at hb
    rcases (by omega : b = 0 ∨ b = 1) with e | e <;> subst e
    · exact a10
    · exact a11
theorem ops_all : opsOK Inv := ⟨fun p I h => h.1, o_write, o_wipe, o_fault, o_lay, o_glass, o_has, o_minutes, o_turn, o_pour, o_undo, o_later, o_falls, o_empty, o_late, o_gains, o_run, o_round, o_counted, o_stolen, o_split, o_night, o_nightHas, o_keep, o_back, o_count⟩
theorem law_all : lawGoal := law_goal ops_all inv0
