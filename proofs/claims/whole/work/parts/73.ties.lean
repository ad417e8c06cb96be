/-! Which glasses are turned with one: two ways to the same set. -/
theorem bU_tb (M b : Nat) : bU M b = (M.testBit b).toNat := by
  rw [Nat.testBit_eq_decide_div_mod_eq]
  unfold bU
  have := Nat.mod_lt (M / 2 ^ b) (show 2 > 0 by omega)
  by_cases h : M / 2 ^ b % 2 = 1
  · simp [h]
  · have h0 : M / 2 ^ b % 2 = 0 := by omega
    simp [h0]
theorem bU_1 {M b : Nat} : bU M b = 1 ↔ M.testBit b = true := by
  rw [bU_tb]
  cases M.testBit b <;> simp
theorem tmk_bit {π : Pln} {j b : Nat} : ∀ k, (tmk π j k).testBit b = true ↔ ∃ x, x < k ∧ π 9 x = j ∧ π 10 x = b := by
  intro k
  induction k with
  | zero => simp [tmk]
  | succ k ih =>
    unfold tmk
    by_cases h : π 9 k = j
    · rw [if_pos h, Nat.testBit_or, Bool.or_eq_true, ih, Nat.testBit_two_pow, decide_eq_true_eq]
      constructor
      · rintro (⟨x, h1, h2⟩ | h1)
        · exact ⟨x, by omega, h2⟩
        · exact ⟨k, by omega, h, h1⟩
      · rintro ⟨x, h1, h2, h3⟩
        by_cases hx : x = k
        · subst hx; exact Or.inr h3
        · exact Or.inl ⟨x, by omega, h2, h3⟩
    · rw [if_neg h, ih]
      constructor
      · rintro ⟨x, h1, h2⟩; exact ⟨x, by omega, h2⟩
      · rintro ⟨x, h1, h2, h3⟩
        by_cases hx : x = k
        · subst hx; exact absurd h2 h
        · exact ⟨x, by omega, h2, h3⟩
def tso (π : Pln) (M : Nat) : Nat → Nat
  | 0 => 0
  | j + 1 => if bU M j = 1 then tso π M j ||| tmk π j (π 8 0) else tso π M j
theorem tso_bit {π : Pln} {M b : Nat} : ∀ g, (tso π M g).testBit b = true ↔ ∃ x, x < π 8 0 ∧ π 9 x < g ∧ M.testBit (π 9 x) = true ∧ π 10 x = b := by
  intro g
  induction g with
  | zero => simp [tso]
  | succ g ih =>
    unfold tso
    by_cases h : bU M g = 1
    · rw [if_pos h, Nat.testBit_or, Bool.or_eq_true, ih, tmk_bit]
      constructor
      · rintro (⟨x, h1, h2, h3⟩ | ⟨x, h1, h2, h3⟩)
        · exact ⟨x, h1, by omega, h3⟩
        · exact ⟨x, h1, by omega, by rw [h2]; exact bU_1.mp h, h3⟩
      · rintro ⟨x, h1, h2, h3, h4⟩
        by_cases hx : π 9 x = g
        · exact Or.inr ⟨x, h1, hx, h4⟩
        · exact Or.inl ⟨x, h1, by omega, h3, h4⟩
    · rw [if_neg h, ih]
      constructor
      · rintro ⟨x, h1, h2, h3⟩; exact ⟨x, h1, by omega, h3⟩
      · rintro ⟨x, h1, h2, h3, h4⟩
        refine ⟨x, h1, ?_, h3, h4⟩
        rcases Nat.lt_or_ge (π 9 x) g with q | q
        · exact q
        · have : π 9 x = g := by omega
          rw [this] at h3
          exact absurd (bU_1.mpr h3) h
/-- the class's way: step by step -/
def itc (π : Pln) (i : Nat) : Nat → Nat
  | 0 => 2 ^ i
  | k + 1 => itc π i k ||| tso π (itc π i k) (π 0 0)
/-- all that is turned with glass i -/
def cl (π : Pln) (i : Nat) : Nat := itc π i (π 0 0 - 1)
/-- the reference's way: tie by tie, eight times -/
def mr (π : Pln) (M : Nat) : Nat → Nat
  | 0 => M
  | k + 1 => if bU (mr π M k) (π 9 k) = 1 then mr π M k ||| 2 ^ π 10 k else mr π M k
def m8 (π : Pln) (i : Nat) : Nat → Nat
  | 0 => 2 ^ i
  | k + 1 => mr π (m8 π i k) (π 8 0)
def clo (π : Pln) (M : Nat) : Prop := ∀ x, x < π 8 0 → M.testBit (π 9 x) = true → M.testBit (π 10 x) = true
def sbs (M M' : Nat) : Prop := ∀ b, M.testBit b = true → M'.testBit b = true
theorem sbs_eq {M M' : Nat} (h1 : sbs M M') (h2 : sbs M' M) : M = M' := by
  apply Nat.eq_of_testBit_eq
  intro b
  rw [Bool.eq_iff_iff]
  exact ⟨h1 b, h2 b⟩
def cnt (M : Nat) : Nat := bU M 0 + bU M 1 + bU M 2 + bU M 3 + bU M 4 + bU M 5 + bU M 6 + bU M 7
theorem bU_le {M M' : Nat} (h : sbs M M') (b : Nat) : bU M b ≤ bU M' b := by
  by_cases h1 : M.testBit b = true
  · rw [bU_1.mpr h1, bU_1.mpr (h b h1)]; exact Nat.le_refl _
  · have : bU M b = 0 := by
      have := bU_lt M b
      rcases (by omega : bU M b = 0 ∨ bU M b = 1) with e | e
      · exact e
      · exact absurd (bU_1.mp e) h1
    omega
theorem cnt_lt {M M' b : Nat} (h : sbs M M') (hb : b < 8) (h1 : ¬ M.testBit b = true) (h2 : M'.testBit b = true) : cnt M < cnt M' := by
  have e1 : bU M b < bU M' b := by
    have := bU_le h b
    have a1 := bU_1.mpr h2
    have := bU_lt M b
    rcases (by omega : bU M b = 0 ∨ bU M b = 1) with e | e
    · omega
    · exact absurd (bU_1.mp e) h1
  have l0 := bU_le h 0
  have l1 := bU_le h 1
  have l2 := bU_le h 2
  have l3 := bU_le h 3
  have l4 := bU_le h 4
  have l5 := bU_le h 5
  have l6 := bU_le h 6
  have l7 := bU_le h 7
  unfold cnt
  rcases (by omega : b = 0 ∨ b = 1 ∨ b = 2 ∨ b = 3 ∨ b = 4 ∨ b = 5 ∨ b = 6 ∨ b = 7) with e | e | e | e | e | e | e | e <;> subst e <;> omega
/-- a growing way ends closed -/
theorem grow_end {π : Pln} (hv : PV π) (f : Nat → Nat) (h0 : ∃ i, i < π 0 0 ∧ (f 0).testBit i = true) (hm : ∀ k, sbs (f k) (f (k + 1))) (hb : ∀ k b, (f k).testBit b = true → b < π 0 0) (hc : ∀ k, clo π (f k) → f (k + 1) = f k) (hg : ∀ k, ¬ clo π (f k) → ∃ b, b < 8 ∧ ¬ (f k).testBit b = true ∧ (f (k + 1)).testBit b = true) :
    ∀ k, clo π (f k) ∨ k + 1 ≤ cnt (f k) := by
  intro k
  induction k with
  | zero =>
    obtain ⟨i, hi, h⟩ := h0
    refine Or.inr ?_
    have h8 := hv.2.1
    have := bU_1.mpr h
    have l := bU_lt (f 0)
    unfold cnt
    rcases (by omega : i = 0 ∨ i = 1 ∨ i = 2 ∨ i = 3 ∨ i = 4 ∨ i = 5 ∨ i = 6 ∨ i = 7) with e | e | e | e | e | e | e | e <;> subst e <;> omega
  | succ k ih =>
    rcases ih with h | h
    · rw [hc k h]; exact Or.inl h
    · by_cases hcl : clo π (f k)
      · rw [hc k hcl]; exact Or.inl hcl
      · obtain ⟨b, b1, b2, b3⟩ := hg k hcl
        have := cnt_lt (hm k) b1 b2 b3
        exact Or.inr (by omega)
theorem cnt_le {M G : Nat} (hG : G ≤ 8) (h : ∀ b, M.testBit b = true → b < G) : cnt M ≤ G := by
  have z : ∀ b, G ≤ b → bU M b = 0 := by
    intro b hb
    have := bU_lt M b
    rcases (by omega : bU M b = 0 ∨ bU M b = 1) with e | e
    · exact e
    · have := h b (bU_1.mp e); omega
  have l0 := bU_lt M 0
  have l1 := bU_lt M 1
  have l2 := bU_lt M 2
  have l3 := bU_lt M 3
  have l4 := bU_lt M 4
  have l5 := bU_lt M 5
  have l6 := bU_lt M 6
  have l7 := bU_lt M 7
  unfold cnt
  rcases (by omega : G = 0 ∨ G = 1 ∨ G = 2 ∨ G = 3 ∨ G = 4 ∨ G = 5 ∨ G = 6 ∨ G = 7 ∨ G = 8) with e | e | e | e | e | e | e | e | e <;> subst e
  · rw [z 0 (by omega), z 1 (by omega), z 2 (by omega), z 3 (by omega), z 4 (by omega), z 5 (by omega), z 6 (by omega), z 7 (by omega)]; omega
  · rw [z 1 (by omega), z 2 (by omega), z 3 (by omega), z 4 (by omega), z 5 (by omega), z 6 (by omega), z 7 (by omega)]; omega
  · rw [z 2 (by omega), z 3 (by omega), z 4 (by omega), z 5 (by omega), z 6 (by omega), z 7 (by omega)]; omega
  · rw [z 3 (by omega), z 4 (by omega), z 5 (by omega), z 6 (by omega), z 7 (by omega)]; omega
  · rw [z 4 (by omega), z 5 (by omega), z 6 (by omega), z 7 (by omega)]; omega
  · rw [z 5 (by omega), z 6 (by omega), z 7 (by omega)]; omega
  · rw [z 6 (by omega), z 7 (by omega)]; omega
  · rw [z 7 (by omega)]; omega
  · omega
theorem cnt_full {M G : Nat} (hG : G ≤ 8) (h : ∀ b, M.testBit b = true → b < G) (hc : G ≤ cnt M) : ∀ b, b < G → M.testBit b = true := by
  intro b hb
  by_cases h1 : M.testBit b = true
  · exact h1
  · exfalso
    have h2 : sbs M (M ||| 2 ^ b) := fun x hx => by rw [Nat.testBit_or, hx]; rfl
    have h3 : (M ||| 2 ^ b).testBit b = true := by rw [Nat.testBit_or, Nat.testBit_two_pow]; simp
    have h4 := cnt_lt h2 (by omega) h1 h3
    have h5 : cnt (M ||| 2 ^ b) ≤ G := cnt_le hG (fun x hx => by
      rw [Nat.testBit_or, Bool.or_eq_true, Nat.testBit_two_pow, decide_eq_true_eq] at hx
      rcases hx with q | q
      · exact h x q
      · omega)
    omega
theorem itc_bd {π : Pln} (hv : PV π) {i : Nat} (hi : i < π 0 0) : ∀ k b, (itc π i k).testBit b = true → b < π 0 0 := by
  intro k
  induction k with
  | zero => intro b hb; unfold itc at hb; rw [Nat.testBit_two_pow, decide_eq_true_eq] at hb; omega
  | succ k ih =>
    intro b hb
    unfold itc at hb
    rw [Nat.testBit_or, Bool.or_eq_true, tso_bit] at hb
    rcases hb with q | ⟨x, h1, h2, h3, h4⟩
    · exact ih b q
    · rw [← h4]; exact (hv.2.2.2.2.1 x h1).2
theorem mr_mono (π : Pln) (M : Nat) : ∀ k, sbs M (mr π M k) := by
  intro k
  induction k with
  | zero => intro b hb; exact hb
  | succ k ih =>
    intro b hb
    unfold mr
    split
    · rw [Nat.testBit_or, ih b hb]; rfl
    · exact ih b hb
theorem mr_in {π : Pln} {M C : Nat} (hM : sbs M C) (hC : clo π C) : ∀ k, k ≤ π 8 0 → sbs (mr π M k) C := by
  intro k
  induction k with
  | zero => intro _ b hb; exact hM b hb
  | succ k ih =>
    intro hk b hb
    unfold mr at hb
    split at hb
    next h =>
      rw [Nat.testBit_or, Bool.or_eq_true, Nat.testBit_two_pow, decide_eq_true_eq] at hb
      rcases hb with q | q
      · exact ih (by omega) b q
      · rw [← q]; exact hC k (by omega) (ih (by omega) _ (bU_1.mp h))
    next => exact ih (by omega) b hb
theorem mr_step {π : Pln} {M : Nat} {x k : Nat} (hx : x < k) (h : M.testBit (π 9 x) = true) : (mr π M k).testBit (π 10 x) = true := by
  induction k with
  | zero => omega
  | succ k ih =>
    unfold mr
    by_cases hxk : x = k
    · subst hxk
      rw [if_pos (bU_1.mpr (mr_mono π M x _ h)), Nat.testBit_or, Nat.testBit_two_pow]
      simp
    · have h2 := ih (by omega)
      split
      · rw [Nat.testBit_or, h2]; rfl
      · exact h2
theorem not_clo {π : Pln} {M : Nat} (h : ¬ clo π M) : ∃ x, x < π 8 0 ∧ M.testBit (π 9 x) = true ∧ ¬ M.testBit (π 10 x) = true := by
  by_cases hx : ∃ x, x < π 8 0 ∧ M.testBit (π 9 x) = true ∧ ¬ M.testBit (π 10 x) = true
  · exact hx
  · exfalso
    apply h
    intro x h1 h2
    by_cases h3 : M.testBit (π 10 x) = true
    · exact h3
    · exact absurd ⟨x, h1, h2, h3⟩ hx
theorem itc_clo {π : Pln} (hv : PV π) {i : Nat} (hi : i < π 0 0) : clo π (cl π i) := by
  have h8 := hv.2.1
  have h := grow_end hv (itc π i) ⟨i, hi, by unfold itc; rw [Nat.testBit_two_pow]; simp⟩
    (fun k b hb => by show (itc π i k ||| _).testBit b = true; rw [Nat.testBit_or, hb]; rfl) (itc_bd hv hi)
    (fun k hc => by
      apply sbs_eq
      · intro b hb
        replace hb : (itc π i k ||| tso π (itc π i k) (π 0 0)).testBit b = true := hb
        rw [Nat.testBit_or, Bool.or_eq_true, tso_bit] at hb
        rcases hb with q | ⟨x, h1, h2, h3, h4⟩
        · exact q
        · rw [← h4]; exact hc x h1 h3
      · intro b hb; show (itc π i k ||| _).testBit b = true; rw [Nat.testBit_or, hb]; rfl)
    (fun k hc => by
      obtain ⟨x, h1, h2, h3⟩ := not_clo hc
      have := (hv.2.2.2.2.1 x h1)
      refine ⟨π 10 x, by omega, h3, ?_⟩
      show (itc π i k ||| tso π (itc π i k) (π 0 0)).testBit _ = true
      rw [Nat.testBit_or, Bool.or_eq_true, tso_bit]
      exact Or.inr ⟨x, h1, this.1, h2, rfl⟩) (π 0 0 - 1)
  rcases h with h | h
  · exact h
  · intro x h1 h2
    have := (hv.2.2.2.2.1 x h1)
    exact cnt_full h8 (itc_bd hv hi _) (by have := hv.1; omega) _ this.2
theorem m8_bd {π : Pln} (hv : PV π) {i : Nat} (hi : i < π 0 0) : ∀ k b, (m8 π i k).testBit b = true → b < π 0 0 := by
  intro k
  induction k with
  | zero => intro b hb; unfold m8 at hb; rw [Nat.testBit_two_pow, decide_eq_true_eq] at hb; omega
  | succ k ih =>
    intro b hb
    -- all below G is closed
    have hC : clo π (2 ^ π 0 0 - 1) := fun x h1 _ => by
      rw [Nat.testBit_two_pow_sub_one, decide_eq_true_eq]
      exact (hv.2.2.2.2.1 x h1).2
    have hM : sbs (m8 π i k) (2 ^ π 0 0 - 1) := fun b hb => by
      rw [Nat.testBit_two_pow_sub_one, decide_eq_true_eq]
      exact ih b hb
    have := mr_in hM hC (π 8 0) (Nat.le_refl _) b hb
    rw [Nat.testBit_two_pow_sub_one, decide_eq_true_eq] at this
    exact this
theorem m8_clo {π : Pln} (hv : PV π) {i : Nat} (hi : i < π 0 0) : clo π (m8 π i 8) := by
  have h8 := hv.2.1
  have h := grow_end hv (m8 π i) ⟨i, hi, by unfold m8; rw [Nat.testBit_two_pow]; simp⟩
    (fun k => mr_mono π _ _) (m8_bd hv hi)
    (fun k hc => sbs_eq (mr_in (fun b hb => hb) hc _ (Nat.le_refl _)) (mr_mono π _ _))
    (fun k hc => by
      obtain ⟨x, h1, h2, h3⟩ := not_clo hc
      have := (hv.2.2.2.2.1 x h1)
      exact ⟨π 10 x, by omega, h3, mr_step h1 h2⟩) 8
  rcases h with h | h
  · exact h
  · have := cnt_le h8 (m8_bd hv hi 8)
    omega
/-- both ways end alike -/
theorem m8_cl {π : Pln} (hv : PV π) {i : Nat} (hi : i < π 0 0) : m8 π i 8 = cl π i := by
  apply sbs_eq
  · have hC := itc_clo hv hi
    have h0 : ∀ k, sbs (m8 π i k) (cl π i) := by
      intro k
      induction k with
      | zero =>
        have : ∀ k, sbs (2 ^ i) (itc π i k) := by
          intro k
          induction k with
          | zero => intro b hb; exact hb
          | succ k ih => intro b hb; show (itc π i k ||| _).testBit b = true; rw [Nat.testBit_or, ih b hb]; rfl
        exact this _
      | succ k ih => exact mr_in ih hC _ (Nat.le_refl _)
    exact h0 8
  · have hC := m8_clo hv hi
    have h1 : sbs (2 ^ i) (m8 π i 8) := by
      have : ∀ k, sbs (2 ^ i) (m8 π i k) := by
        intro k
        induction k with
        | zero => intro b hb; exact hb
        | succ k ih => intro b hb; exact mr_mono π _ _ b (ih b hb)
      exact this 8
    have : ∀ k, sbs (itc π i k) (m8 π i 8) := by
      intro k
      induction k with
      | zero => exact h1
      | succ k ih =>
        intro b hb
        replace hb : (itc π i k ||| tso π (itc π i k) (π 0 0)).testBit b = true := hb
        rw [Nat.testBit_or, Bool.or_eq_true, tso_bit] at hb
        rcases hb with q | ⟨x, x1, x2, x3, x4⟩
        · exact ih b q
        · rw [← x4]; exact hC x x1 (ih _ x3)
    exact this _
theorem lt_of_bits {M G : Nat} (h : ∀ b, M.testBit b = true → b < G) : M < 2 ^ G := by
  apply Nat.lt_pow_two_of_testBit
  intro i hi
  cases hb : M.testBit i with
  | false => rfl
  | true => have := h i hb; omega
theorem cl_lt {π : Pln} (hv : PV π) {i : Nat} (hi : i < π 0 0) : cl π i < 2 ^ π 0 0 := lt_of_bits (itc_bd hv hi _)
theorem pow_G {π : Pln} (hv : PV π) : 2 ^ π 0 0 ≤ 256 := Nat.pow_le_pow_right (by omega) hv.2.1
theorem cl_self {π : Pln} {i : Nat} : (cl π i).testBit i = true := by
  have : ∀ k, (itc π i k).testBit i = true := by
    intro k
    induction k with
    | zero => unfold itc; rw [Nat.testBit_two_pow]; simp
    | succ k ih => show (itc π i k ||| _).testBit i = true; rw [Nat.testBit_or, ih]; rfl
  exact this _
theorem itc_lt {π : Pln} (hv : PV π) {i : Nat} (hi : i < π 0 0) (k : Nat) : itc π i k < 256 := Nat.lt_of_lt_of_le (lt_of_bits (itc_bd hv hi k)) (pow_G hv)
