/-! Turning: the class's sets, the reference's loops. -/
theorem PlC_congr9 {I I' : IH} {q : Nat} {π : Pln} (h : ∀ j, j ≤ 12 → j ≠ 9 → I' (q + j) = I (q + j)) (hp : PlC I q π) : PlC I' q π := by
  unfold PlC at *
  have h0 := h 0 (by omega) (by omega)
  rw [Nat.add_zero] at h0
  rw [h0, h 1 (by omega) (by omega), h 2 (by omega) (by omega), h 3 (by omega) (by omega), h 4 (by omega) (by omega), h 5 (by omega) (by omega), h 6 (by omega) (by omega), h 7 (by omega) (by omega), h 8 (by omega) (by omega), h 10 (by omega) (by omega), h 11 (by omega) (by omega), h 12 (by omega) (by omega)]
  exact hp
theorem c_tsome {q : Nat} {π : Pln} (hv : PV π) {I : IH} (hP : PlC I q π) {M : Nat} (hM : M < 256) :
    ∀ (d g n : Nat), g + d = π 0 0 → d < n → g_X2_tiedToSome_4 q n (nI M) (nI (tso π M g)) (nI g) I = some (nI (tso π M (π 0 0)), I) := by
  have hG8 := hv.2.1
  intro d
  induction d with
  | zero =>
    intro g n hg hn
    obtain ⟨n, rfl⟩ : ∃ k, n = k + 1 := ⟨n - 1, by omega⟩
    simp only [g_X2_tiedToSome_4]
    rw [if_pos (by rw [hP.1]; exact nI_le (by omega) (by omega)), show g = π 0 0 by omega]
  | succ d ih =>
    intro g n hg hn
    obtain ⟨n, rfl⟩ : ∃ k, n = k + 1 := ⟨n - 1, by omega⟩
    have hgG : g < π 0 0 := by omega
    have k := ih (g + 1) n (by omega) (by omega)
    simp only [g_X2_tiedToSome_4, g_X2_tiedToSome_30, bnd_eq]
    rw [if_neg (by rw [hP.1]; exact nI_ge hgG (by omega)), nI_bit (by omega) (by omega)]
    rw [show tso π M (g + 1) = if bU M g = 1 then tso π M g ||| tmk π g (π 8 0) else tso π M g from rfl] at k
    by_cases h : bU M g = 1
    · rw [if_pos h] at k
      rw [if_pos (by rw [h]; exact li1.symm), inB_t (by omega) (by omega), if_pos rfl, nI_clamp (by omega), (hP.2.1 g hgG).2.2.2.2.2.2.2.2.2, nI_or, nI_1]
      exact k
    · rw [if_neg h] at k
      have h0 : bU M g = 0 := by have := bU_lt M g; omega
      rw [if_neg (by rw [h0]; decide), nI_1]
      exact k
theorem c_bind_in {q : Nat} (hq : q = 5 ∨ q = 18) {π : Pln} (hv : PV π) {I : IH} (hP : PlC I q π) {K : Int32 → IH → Option IH} {i : Nat} (hi : i < π 0 0) :
    ∀ (d st n : Nat), st + d = π 0 0 → 1 ≤ st → d + 10 < n → g_X2_bindTies_16 q K n (nI i) (nI (itc π i (st - 1))) (nI st) I = K (nI (i + 1)) (up2 I (q + 9) i (nI (cl π i))) := by
  have hG8 := hv.2.1
  intro d
  induction d with
  | zero =>
    intro st n hg h1 hn
    obtain ⟨n, rfl⟩ : ∃ k, n = k + 1 := ⟨n - 1, by omega⟩
    simp only [g_X2_bindTies_16, bnd_eq]
    rw [if_pos (by rw [hP.1]; exact nI_le (by omega) (by omega)), inB_t (by omega) (by omega), if_pos rfl, nI_clamp (by omega), nI_1, show st = π 0 0 by omega]
    rfl
  | succ d ih =>
    intro st n hg h1 hn
    obtain ⟨n, rfl⟩ : ∃ k, n = k + 1 := ⟨n - 1, by omega⟩
    have k := ih (st + 1) n (by omega) (by omega) (by omega)
    simp only [g_X2_bindTies_16, g_X2_tiedToSome, bnd_eq]
    have t := c_tsome hv hP (itc_lt hv hi (st - 1)) (π 0 0) 0 n (by omega) (by omega)
    rw [if_neg (by rw [hP.1]; exact nI_ge (by omega) (by omega)), show (0 : Int32) = nI (tso π (itc π i (st - 1)) 0) from rfl]
    rw [show nI (tso π (itc π i (st - 1)) 0) = nI 0 from rfl] at t ⊢
    rw [t]
    dsimp only
    rw [nI_or, nI_1]
    have e : itc π i (st - 1) ||| tso π (itc π i (st - 1)) (π 0 0) = itc π i (st + 1 - 1) := by
      rw [show st + 1 - 1 = (st - 1) + 1 by omega]
      rfl
    rw [e]
    exact k
theorem c_bind_loop {q : Nat} (hq : q = 5 ∨ q = 18) {π : Pln} (hv : PV π) :
    ∀ (d i n : Nat) (J : IH), i + d = π 0 0 → d + 20 < n → PlC J q π → (∀ x, x < i → J (q + 9) x = nI (cl π x)) → ∃ I', g_X2_bindTies_2 q n (nI i) J = some I' ∧ PlC I' q π ∧ (∀ x, x < π 0 0 → I' (q + 9) x = nI (cl π x)) ∧ ∀ id, id ≠ q + 9 → I' id = J id := by
  have hG8 := hv.2.1
  intro d
  induction d with
  | zero =>
    intro i n J hg hn hP hJ
    obtain ⟨n, rfl⟩ : ∃ k, n = k + 1 := ⟨n - 1, by omega⟩
    simp only [g_X2_bindTies_2]
    rw [if_pos (by rw [hP.1]; exact nI_le (by omega) (by omega))]
    exact ⟨J, rfl, hP, fun x hx => hJ x (by omega), fun _ _ => rfl⟩
  | succ d ih =>
    intro i n J hg hn hP hJ
    obtain ⟨n, rfl⟩ : ∃ k, n = k + 1 := ⟨n - 1, by omega⟩
    have hi : i < π 0 0 := by omega
    simp only [g_X2_bindTies_2, bnd_eq]
    have e := c_bind_in hq hv hP (K := g_X2_bindTies_2 q n) hi (π 0 0 - 1) 1 n (by omega) (by omega) (by omega)
    rw [if_neg (by rw [hP.1]; exact nI_ge hi (by omega)), nI_pow (by omega), show (1 : Int32) = nI 1 from rfl]
    rw [show itc π i (1 - 1) = 2 ^ i from rfl] at e
    rw [e]
    obtain ⟨I', k1, k2, k3, k4⟩ := ih (i + 1) n (up2 J (q + 9) i (nI (cl π i))) (by omega) (by omega) (PlC_congr9 (fun j h1 h2 => up2_i _ _ (by omega)) hP) (fun x hx => by
      by_cases hxi : x = i
      · subst hxi; exact up2_s _ _ _ _
      · rw [up2_j _ _ hxi]; exact hJ x (by omega))
    refine ⟨I', k1, k2, k3, fun id h => ?_⟩
    rw [k4 id h, up2_i _ _ h]
/-- bindTies: what turns with each glass -/
theorem c_bind {q n : Nat} (hq : q = 5 ∨ q = 18) (hn : 30 ≤ n) {π : Pln} (hv : PV π) {I : IH} (hP : PlC I q π) : ∃ I', g_X2_bindTies n q I = some I' ∧ PlC I' q π ∧ (∀ x, x < π 0 0 → I' (q + 9) x = nI (cl π x)) ∧ ∀ id, id ≠ q + 9 → I' id = I id := by
  have hG8 := hv.2.1
  simp only [g_X2_bindTies]
  exact c_bind_loop hq hv (π 0 0) 0 n I (by omega) (by omega) hP (fun x hx => by omega)
theorem m_has1 {n M j : Nat} {I : IH} (hM : M < 2 ^ 31) (hj : j < 32) : g_X9_has1 n (nI M) (nI j) I = some (nI (bU M j), I) := by
  simp only [g_X9_has1]
  rw [nI_bit hM hj]
  have := bU_lt M j
  rcases (by omega : bU M j = 0 ∨ bU M j = 1) with h | h
  · rw [h, if_neg (by decide)]; rfl
  · rw [h, if_pos (by decide)]; rfl
theorem mr_lt {π : Pln} (hv : PV π) {M : Nat} (hM : ∀ b, M.testBit b = true → b < π 0 0) (k : Nat) (hk : k ≤ π 8 0) : mr π M k < 256 := by
  have hC : clo π (2 ^ π 0 0 - 1) := fun x h1 _ => by
    rw [Nat.testBit_two_pow_sub_one, decide_eq_true_eq]
    exact (hv.2.2.2.2.1 x h1).2
  have h : sbs M (2 ^ π 0 0 - 1) := fun b hb => by
    rw [Nat.testBit_two_pow_sub_one, decide_eq_true_eq]
    exact hM b hb
  refine Nat.lt_of_lt_of_le (lt_of_bits (G := π 0 0) (fun b hb => ?_)) (pow_G hv)
  have := mr_in h hC k hk b hb
  rw [Nat.testBit_two_pow_sub_one, decide_eq_true_eq] at this
  exact this
theorem m_tied_in {π : Pln} (hv : PV π) {I : IH} (hP : PlM I 0 π) {K : Int32 → Int32 → IH → Option (Int32 × IH)} {M r : Nat} (hM : ∀ b, M.testBit b = true → b < π 0 0) :
    ∀ (d k n : Nat), k + d = π 8 0 → d < n → g_X9_tiedTo_15 K n (nI (mr π M k)) (nI r) (nI k) I = K (nI (mr π M (π 8 0))) (nI (r + 1)) I := by
  have hG8 := hv.2.1
  have hT8 := hv.2.2.2.1
  obtain ⟨-, -, p2, p3, -⟩ := hP
  intro d
  induction d with
  | zero =>
    intro k n hk hn
    obtain ⟨n, rfl⟩ : ∃ k, n = k + 1 := ⟨n - 1, by omega⟩
    simp only [g_X9_tiedTo_15, bnd_eq]
    rw [p2, if_pos (nI_le (by omega) (by omega)), nI_1, show k = π 8 0 by omega]
  | succ d ih =>
    intro k n hk hn
    obtain ⟨n, rfl⟩ : ∃ k, n = k + 1 := ⟨n - 1, by omega⟩
    have hkT : k < π 8 0 := by omega
    obtain ⟨q1, q2⟩ := p3 k hkT
    rw [Nat.add_zero] at q1 q2
    have ht := hv.2.2.2.2.1 k hkT
    have e := ih (k + 1) n (by omega) (by omega)
    have hlt := mr_lt hv hM k (by omega)
    simp only [g_X9_tiedTo_15, g_X9_tiedTo_60, bnd_eq]
    rw [p2, if_neg (nI_ge hkT (by omega)), li2, pk_mul, inB_t (by omega) (by omega), if_pos rfl, nI_clamp (by omega), q1, m_has1 (by omega) (by omega)]
    dsimp only
    rw [show mr π M (k + 1) = if bU (mr π M k) (π 9 k) = 1 then mr π M k ||| 2 ^ π 10 k else mr π M k from rfl] at e
    by_cases h : bU (mr π M k) (π 9 k) = 1
    · rw [if_pos h] at e
      rw [h, if_neg (by decide), li1, nI_add, inB_t (by omega) (by omega), if_pos rfl, nI_clamp (by omega), q2, ← li1, nI_pow (by omega), nI_or, nI_1]
      exact e
    · rw [if_neg h] at e
      have h0 : bU (mr π M k) (π 9 k) = 0 := by have := bU_lt (mr π M k) (π 9 k); omega
      rw [h0, if_pos (by decide), nI_1, li0, nI_or, Nat.or_zero]
      exact e
theorem m_tied_out {π : Pln} (hv : PV π) {I : IH} (hP : PlM I 0 π) {i : Nat} (hi : i < π 0 0) :
    ∀ (d r n : Nat), r + d = 8 → d + 10 < n → g_X9_tiedTo_6 n (nI (m8 π i r)) (nI r) I = some (nI (m8 π i 8), I) := by
  intro d
  induction d with
  | zero =>
    intro r n hr hn
    obtain ⟨n, rfl⟩ : ∃ k, n = k + 1 := ⟨n - 1, by omega⟩
    simp only [g_X9_tiedTo_6]
    rw [li8, if_pos (nI_le (by omega) (by omega)), show r = 8 by omega]
  | succ d ih =>
    intro r n hr hn
    obtain ⟨n, rfl⟩ : ∃ k, n = k + 1 := ⟨n - 1, by omega⟩
    simp only [g_X9_tiedTo_6]
    have hT8 := hv.2.2.2.1
    have e := m_tied_in hv hP (K := g_X9_tiedTo_6 n) (r := r) (m8_bd hv hi r) (π 8 0) 0 n (by omega) (by omega)
    rw [li8, if_neg (nI_ge (by omega) (by omega)), li0]
    rw [show mr π (m8 π i r) 0 = m8 π i r from rfl] at e
    rw [e]
    exact ih (r + 1) n (by omega) (by omega)
/-- tiedTo: what turns with a glass -/
theorem m_tied {n i : Nat} (hn : 20 ≤ n) {π : Pln} (hv : PV π) {I : IH} (hP : PlM I 0 π) (hi : i < π 0 0) : g_X9_tiedTo n (nI i) I = some (nI (cl π i), I) := by
  have hG8 := hv.2.1
  simp only [g_X9_tiedTo, bnd_eq]
  rw [nI_pow (by omega), li0, ← m8_cl hv hi]
  exact m_tied_out hv hP hi 8 0 n (by omega) (by omega)
/-- how many bits below g -/
def pcn (M : Nat) : Nat → Nat
  | 0 => 0
  | g + 1 => pcn M g + bU M g
theorem pcn_le (M : Nat) : ∀ g, pcn M g ≤ g := by
  intro g
  induction g with
  | zero => exact Nat.le_refl _
  | succ g ih => have := bU_lt M g; unfold pcn; omega
theorem bU_xor (U M i : Nat) : bU (U ^^^ M) i = if bU M i = 1 then 1 - bU U i else bU U i := by
  rw [bU_tb, bU_tb, bU_tb, Nat.testBit_xor]
  cases U.testBit i <;> cases M.testBit i <;> rfl
theorem m_turn_loop {k : Nat} (hk : k ≤ 3) {π : Pln} (hv : PV π) {M : Nat} (hM : M < 256) {u : Nat → Nat} (hu : ∀ i, u i < 2) :
    ∀ (d g n : Nat) (J : IH), g + d = π 0 0 → d < n → J 57 0 = nI (π 0 0) → (∀ i, i < π 0 0 → J 75 (8 * k + i) = nI (if i < g ∧ bU M i = 1 then 1 - u i else u i)) →
    ∃ I', g_X9_turnOf_12 n (nI k) (nI M) (nI (pcn M g)) (nI g) J = some (nI (pcn M (π 0 0)), I') ∧ (∀ i, i < π 0 0 → I' 75 (8 * k + i) = nI (if bU M i = 1 then 1 - u i else u i)) ∧ (∀ j, j < 8 * k ∨ 8 * k + 8 ≤ j → I' 75 j = J 75 j) ∧ ∀ id, id ≠ 75 → I' id = J id := by
  have hG8 := hv.2.1
  intro d
  induction d with
  | zero =>
    intro g n J hg hn h0 hJ
    obtain ⟨n, rfl⟩ : ∃ k, n = k + 1 := ⟨n - 1, by omega⟩
    simp only [g_X9_turnOf_12, bnd_eq]
    rw [h0, if_pos (nI_le (by omega) (by omega)), show g = π 0 0 by omega]
    refine ⟨J, rfl, fun i hi => ?_, fun _ _ => rfl, fun _ _ => rfl⟩
    rw [hJ i hi]
    congr 1
    by_cases h : bU M i = 1
    · rw [if_pos ⟨by omega, h⟩, if_pos h]
    · rw [if_neg (fun q => h q.2), if_neg h]
  | succ d ih =>
    intro g n J hg hn h0 hJ
    obtain ⟨n, rfl⟩ : ∃ k, n = k + 1 := ⟨n - 1, by omega⟩
    have hgG : g < π 0 0 := by omega
    have hp := pcn_le M g
    have hug := hu g
    simp only [g_X9_turnOf_12, g_X9_turnOf_61, bnd_eq]
    rw [h0, if_neg (nI_ge hgG (by omega)), m_has1 (by omega) (by omega)]
    dsimp only
    have hb := bU_lt M g
    rcases (by omega : bU M g = 0 ∨ bU M g = 1) with h | h
    · rw [h, if_pos (by decide), nI_1]
      have e : pcn M (g + 1) = pcn M g := by show pcn M g + bU M g = _; omega
      rw [← e]
      refine ih (g + 1) n J (by omega) (by omega) h0 (fun i hi => ?_)
      rw [hJ i hi]
      congr 1
      by_cases hi2 : i < g ∧ bU M i = 1
      · rw [if_pos hi2, if_pos ⟨by omega, hi2.2⟩]
      · rw [if_neg hi2, if_neg]
        rintro ⟨q1, q2⟩
        by_cases hig : i = g
        · subst hig; omega
        · exact hi2 ⟨by omega, q2⟩
    · rw [h, if_neg (by decide), li8, pk_mul, nI_add, inB_t (by omega) (by omega), if_pos rfl, if_pos rfl, nI_clamp (by omega), hJ g hgG, if_neg (by omega), li1, pk_sub (by omega), nI_add, nI_add]
      have e : pcn M g + 1 = pcn M (g + 1) := by show _ = pcn M g + bU M g; omega
      rw [e]
      obtain ⟨I', k1, k2, k3, k4⟩ := ih (g + 1) n (up2 J 75 (8 * k + g) (nI (1 - u g))) (by omega) (by omega) (by rw [up2_i _ _ (by decide)]; exact h0) (fun i hi => by
        by_cases hig : i = g
        · subst hig
          rw [up2_s, if_pos ⟨by omega, h⟩]
        · rw [up2_j _ _ (by omega), hJ i hi]
          congr 1
          by_cases hi2 : i < g ∧ bU M i = 1
          · rw [if_pos hi2, if_pos ⟨by omega, hi2.2⟩]
          · rw [if_neg hi2, if_neg]
            rintro ⟨q1, q2⟩
            exact hi2 ⟨by omega, q2⟩)
      refine ⟨I', k1, k2, fun j hj => ?_, fun id hid => ?_⟩
      · rw [k3 j hj, up2_j _ _ (by omega)]
      · rw [k4 id hid, up2_i _ _ hid]
/-- turnOf in book k -/
theorem m_turn {n k i : Nat} (hn : 20 ≤ n) {π : Pln} (hv : PV π) {I : IH} (hP : PlM I 0 π) (hk : k ≤ 3) (hi : i < π 0 0) {sa : Nat → Nat} {U m : Nat} (hS : ShM I k (π 0 0) sa U m) :
    ∃ I', g_X9_turnOf n (nI k) (nI i) I = some (nI (pcn (cl π i) (π 0 0)), I') ∧ ShM I' k (π 0 0) sa (U ^^^ cl π i) m ∧ (∀ j, j < 8 * k ∨ 8 * k + 8 ≤ j → I' 75 j = I 75 j) ∧ ∀ id, id ≠ 75 → I' id = I id := by
  have hG8 := hv.2.1
  have hcl := Nat.lt_of_lt_of_le (cl_lt hv hi) (pow_G hv)
  simp only [g_X9_turnOf]
  rw [m_tied hn hv hP hi]
  dsimp only
  obtain ⟨I', k1, k2, k3, k4⟩ := m_turn_loop hk hv hcl (u := bU U) (bU_lt U) (π 0 0) 0 n I (by omega) (by omega) hP.1 (fun i hi => by rw [hS.2.1 i hi, if_neg (by omega)])
  refine ⟨I', k1, ⟨?_, ?_, ?_⟩, k3, k4⟩
  · rw [k4 76 (by decide)]; exact hS.1
  · intro x hx; rw [k2 x hx, bU_xor]
  · intro b hb; rw [k4 74 (by decide)]; exact hS.2.2 b hb
/-- flip in the class -/
theorem c_flip {n s M : Nat} {I : IH} {G : Nat} {sa : Nat → Nat} {U m : Nat} (hS : ShC I s G sa U m) : ∃ I', g_X5_flip n s (nI M) I = some I' ∧ ShC I' s G sa (U ^^^ M) m ∧ ∀ id, id ≠ s → I' id = I id := by
  simp only [g_X5_flip, bnd_eq]
  refine ⟨_, rfl, ⟨?_, ?_, ?_⟩, fun id h => up2_i _ _ h⟩
  · rw [up2_s, hS.1, nI_xor]
  · rw [up2_j _ _ (by omega)]; exact hS.2.1
  · intro b hb; rw [up2_i _ _ (by omega)]; exact hS.2.2 b hb
theorem xor_lt {U M : Nat} (h1 : U < 256) (h2 : M < 256) : U ^^^ M < 256 := Nat.xor_lt_two_pow (n := 8) h1 h2
