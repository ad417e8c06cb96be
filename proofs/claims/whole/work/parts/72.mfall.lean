/-! One minute's sand in the reference. -/
theorem m_upper {n k i : Nat} {I : IH} {u : Nat} (hk : k ≤ 3) (hi : i < 8) (hu : I 75 (8 * k + i) = nI u) (hu2 : u < 2) : g_X9_upper n (nI k) (nI i) I = some (nI (16 * k + 2 * i + u), I) := by
  simp only [g_X9_upper]
  rw [li8, pk_mul, nI_add, inB_t (by omega) (by omega), if_pos rfl]
  simp only [bnd_eq]
  rw [nI_clamp (by omega), hu, li16, pk_mul, li2, pk_mul, nI_add, nI_add]
theorem m_lower {n k i : Nat} {I : IH} {u : Nat} (hk : k ≤ 3) (hi : i < 8) (hu : I 75 (8 * k + i) = nI u) (hu2 : u < 2) : g_X9_lower n (nI k) (nI i) I = some (nI (16 * k + 2 * i + (1 - u)), I) := by
  simp only [g_X9_lower]
  rw [li8, pk_mul, nI_add, inB_t (by omega) (by omega), if_pos rfl]
  simp only [bnd_eq]
  rw [nI_clamp (by omega), hu, li16, pk_mul, li2, pk_mul, nI_add, li1, nI_add, pk_sub (by omega), show 16 * k + 2 * i + 1 - u = 16 * k + 2 * i + (1 - u) by omega]
/-- what falls out of bulb b -/
def flo (π : Pln) (m U : Nat) (sa : Nat → Nat) (g b : Nat) : Nat := if b / 2 < g ∧ b % 2 = bU U (b / 2) then fln π m U sa (b / 2) else 0
theorem flo_succ {π : Pln} {m U : Nat} {sa : Nat → Nat} {g b : Nat} : flo π m U sa (g + 1) b = if b = 2 * g + bU U g then fln π m U sa g else flo π m U sa g b := by
  have h := bU_lt U g
  unfold flo
  by_cases h1 : b / 2 = g
  · subst h1
    by_cases h2 : b % 2 = bU U (b / 2)
    · rw [if_pos ⟨by omega, h2⟩, if_pos (by omega)]
    · rw [if_neg (by omega), if_neg (by omega), if_neg (by omega)]
  · rw [if_neg (by omega : ¬ b = 2 * g + bU U g)]
    by_cases h2 : b / 2 < g ∧ b % 2 = bU U (b / 2)
    · rw [if_pos (by omega), if_pos h2]
    · rw [if_neg (by omega), if_neg h2]
/-- what the reference's own loop holds when g glasses have run -/
def mfI (I J : IH) (k G : Nat) (π : Pln) (m U : Nat) (sa : Nat → Nat) (g : Nat) : Prop :=
  ShM J k G (fal π m U sa g) U m ∧ (∀ b, b < 16 → J 81 b = I 81 b + nI (flo π m U sa g b)) ∧ (∀ j, j < 16 * k ∨ 16 * k + 16 ≤ j → J 74 j = I 74 j) ∧ ∀ id, id ≠ 74 → id ≠ 81 → J id = I id
set_option maxHeartbeats 1000000 in
theorem m_fall_123 {n k g : Nat} {K : Int32 → Int32 → Int32 → IH → Option IH} {v2 : Int32} {I J : IH} {π : Pln} (hv : PV π) {sa : Nat → Nat} {U m : Nat} (hk : k ≤ 3) (hg : g < π 0 0) (hsa : ∀ b, b < 2 * π 0 0 → sa b ≤ 20000) (hJ : mfI I J k (π 0 0) π m U sa g) :
    ∃ J', g_X9_fall_123 n K (nI k) v2 (nI g) (nI (16 * k + (2 * g + bU U g))) (nI (fln π m U sa g)) J = K (nI k) v2 (nI (g + 1)) J' ∧ mfI I J' k (π 0 0) π m U sa (g + 1) := by
  have hG8 : π 0 0 ≤ 8 := hv.2.1
  obtain ⟨⟨j1, j2, j3⟩, j4, j5, j6⟩ := hJ
  have hb := bU_lt U g
  have hx := bx_lt (U := U) hg
  have hsx := hsa _ hx
  have hsy := hsa (2 * g + (1 - bU U g)) (by omega)
  have hf := flw_le hv (m := m) hg
  have hfl : fln π m U sa g ≤ sa (2 * g + bU U g) := Nat.min_le_left _ _
  have c1 : inB (nI (16 * k + (2 * g + bU U g))) 64 = true := inB_t (by omega) (by omega)
  simp only [g_X9_fall_123, bnd_eq]
  rw [c1, if_pos rfl, if_pos rfl, nI_clamp (by omega), j3 _ hx, fal_hi (by omega), pk_sub hfl]
  rw [m_lower hk (by omega) (by rw [up2_i _ _ (by decide)]; exact j2 g hg) hb]
  dsimp only
  have c2 : inB (nI (16 * k + 2 * g + (1 - bU U g))) 64 = true := inB_t (by omega) (by omega)
  rw [c2, if_pos rfl, if_pos rfl, nI_clamp (by omega), up2_j _ _ (by omega), show 16 * k + 2 * g + (1 - bU U g) = 16 * k + (2 * g + (1 - bU U g)) by omega, j3 _ (by omega), fal_hi (by omega), nI_add, li16, pk_mul, pk_sub (by omega), show 16 * k + (2 * g + bU U g) - 16 * k = 2 * g + bU U g by omega]
  have c3 : inB (nI (2 * g + bU U g)) 16 = true := inB_t (by omega) (by omega)
  rw [c3, if_pos rfl, if_pos rfl, nI_clamp (by omega), up2_i _ _ (by decide), up2_i _ _ (by decide), j4 _ (by omega), nI_1]
  refine ⟨_, rfl, ⟨?_, ?_, ?_⟩, ?_, ?_, ?_⟩
  · rw [up2_i _ _ (by decide), up2_i _ _ (by decide), up2_i _ _ (by decide)]; exact j1
  · intro i hi
    rw [up2_i _ _ (by decide), up2_i _ _ (by decide), up2_i _ _ (by decide)]; exact j2 i hi
  · intro b hb
    rw [up2_i _ _ (by decide), fal_succ]
    by_cases h2 : b = 2 * g + (1 - bU U g)
    · subst h2
      rw [up2_s, if_neg (by omega), if_pos rfl]
    · rw [up2_j _ _ (by omega), if_neg h2]
      by_cases h1 : b = 2 * g + bU U g
      · subst h1
        rw [up2_s, if_pos rfl]
      · rw [up2_j _ _ (by omega), if_neg h1]
        exact j3 b hb
  · intro b hb
    rw [flo_succ]
    by_cases h1 : b = 2 * g + bU U g
    · subst h1
      rw [up2_s, if_pos rfl]
      congr 1
      have : flo π m U sa g (2 * g + bU U g) = 0 := by
        unfold flo
        rw [if_neg (by omega)]
      rw [this]
      exact Int32.add_zero _
    · rw [up2_j _ _ h1, if_neg h1, up2_i _ _ (by decide), up2_i _ _ (by decide)]
      exact j4 b hb
  · intro j hj
    rw [up2_i _ _ (by decide), up2_j _ _ (by omega), up2_j _ _ (by omega)]
    exact j5 j hj
  · intro id h1 h2
    rw [up2_i _ _ h2, up2_i _ _ h1, up2_i _ _ h1]
    exact j6 id h1 h2
set_option maxHeartbeats 1000000 in
theorem m_fall_89 {n k g : Nat} {K : Int32 → Int32 → Int32 → IH → Option IH} {v2 : Int32} {I J : IH} {π : Pln} (hv : PV π) {sa : Nat → Nat} {U m : Nat} (hk : k ≤ 3) (hg : g < π 0 0) (hsa : ∀ b, b < 2 * π 0 0 → sa b ≤ 20000) (hJ : mfI I J k (π 0 0) π m U sa g) :
    ∃ J', g_X9_fall_89 n K (nI k) v2 (nI g) (nI (flw π m g)) J = K (nI k) v2 (nI (g + 1)) J' ∧ mfI I J' k (π 0 0) π m U sa (g + 1) := by
  have hG8 : π 0 0 ≤ 8 := hv.2.1
  obtain ⟨⟨j1, j2, j3⟩, j4, j5, j6⟩ := id hJ
  have hb := bU_lt U g
  have hx := bx_lt (U := U) hg
  have hsx := hsa _ hx
  have hf := flw_le hv (m := m) hg
  have c1 : inB (nI (16 * k + (2 * g + bU U g))) 64 = true := inB_t (by omega) (by omega)
  simp only [g_X9_fall_89, bnd_eq]
  rw [m_upper hk (by omega) (j2 g hg) hb]
  dsimp only
  rw [show 16 * k + 2 * g + bU U g = 16 * k + (2 * g + bU U g) by omega, c1, if_pos rfl, if_pos rfl, nI_clamp (by omega), j3 _ hx, fal_hi (by omega)]
  have key := m_fall_123 (n := n) (K := K) (v2 := v2) hv hk hg hsa hJ
  by_cases h : sa (2 * g + bU U g) ≤ flw π m g
  · rw [if_pos ((nI_leI (by omega) (by omega)).mpr h)]
    rw [show fln π m U sa g = sa (2 * g + bU U g) from Nat.min_eq_left h] at key
    exact key
  · rw [if_neg (fun q => h ((nI_leI (by omega) (by omega)).mp q))]
    rw [show fln π m U sa g = flw π m g from Nat.min_eq_right (by omega)] at key
    exact key
set_option maxHeartbeats 1000000 in
theorem m_fall_loop {k : Nat} {π : Pln} (hv : PV π) {I : IH} (hP : PlM I 0 π) {sa : Nat → Nat} {U m : Nat} (hk : k ≤ 3) (hm : m ≤ 1100000) (hsa : ∀ b, b < 2 * π 0 0 → sa b ≤ 20000) :
    ∀ (d g n : Nat) (J : IH), g + d = π 0 0 → d < n → mfI I J k (π 0 0) π m U sa g →
    ∃ J', g_X9_fall_20 n (nI k) (if m % 3 = 2 then 1 else 0) (nI g) J = some (up2 J' 76 k (nI (m + 1))) ∧ mfI I J' k (π 0 0) π m U sa (π 0 0) := by
  have hG8 : π 0 0 ≤ 8 := hv.2.1
  intro d
  induction d with
  | zero =>
    intro g n J hg hn hJ
    obtain ⟨n, rfl⟩ : ∃ k, n = k + 1 := ⟨n - 1, by omega⟩
    obtain ⟨⟨j1, j2, j3⟩, j4, j5, j6⟩ := id hJ
    have hgG : g = π 0 0 := by omega
    subst hgG
    simp only [g_X9_fall_20, bnd_eq]
    rw [j6 57 (by decide) (by decide), hP.1, if_pos (nI_le (by omega) (by omega)), inB_t (by omega) (by omega), if_pos rfl, if_pos rfl, nI_clamp (by omega), j1, nI_1]
    exact ⟨J, rfl, hJ⟩
  | succ d ih =>
    intro g n J hg hn hJ
    obtain ⟨n, rfl⟩ : ∃ k, n = k + 1 := ⟨n - 1, by omega⟩
    obtain ⟨⟨j1, j2, j3⟩, j4, j5, j6⟩ := id hJ
    have hgG : g < π 0 0 := by omega
    obtain ⟨p0, p1, -⟩ := hP
    obtain ⟨q1, q2, -⟩ := p1 g hgG
    rw [Nat.mul_zero, Nat.zero_add] at q1 q2
    have v1 := hv.2.2.1 g hgG
    simp only [g_X9_fall_20, g_X9_fall_50, g_X9_fall_79, bnd_eq]
    have c2 : inB (nI g) 16 = true := inB_t (by omega) (by omega)
    rw [j6 57 (by decide) (by decide), p0, if_neg (nI_ge hgG (by omega)), c2]
    simp only [if_pos]
    rw [nI_clamp (by omega), j6 58 (by decide) (by decide), j6 61 (by decide) (by decide), q1, q2]
    have key := m_fall_89 (n := n) (K := g_X9_fall_20 n) (v2 := if m % 3 = 2 then 1 else 0) hv hk hgG hsa hJ
    obtain ⟨J', e1, e2⟩ := key
    obtain ⟨J2, f1, f2⟩ := ih (g + 1) n J' (by omega) (by omega) e2
    refine ⟨J2, ?_, f2⟩
    rw [← f1, ← e1]
    have d1 : (nI (π 1 g) = 1) ↔ π 1 g = 1 := by rw [li1]; exact nI_eq (by omega) (by omega)
    have d3 : (nI (π 1 g) = 3) ↔ π 1 g = 3 := by rw [li3]; exact nI_eq (by omega) (by omega)
    have m2 : nI (π 2 g) * 2 = nI (2 * π 2 g) := by rw [li2, pk_mul, Nat.mul_comm]
    have m1 : nI (π 2 g) * 1 = nI (π 2 g) := by rw [li1, pk_mul, Nat.mul_one]
    simp only [d1, d3, m1, m2]
    unfold flw
    by_cases h1 : π 1 g = 1
    · by_cases h3 : m % 3 = 2
      · simp [h1, h3, nI_0]
      · simp [h1, h3]
    · by_cases h2 : π 1 g = 3
      · by_cases h3 : m % 3 = 2
        · simp [h2, h3, nI_0]
        · simp [h2, h3]
      · simp [h1, h2]
/-- one minute's sand in book k -/
theorem m_fall {n k : Nat} (hn : 9 ≤ n) {π : Pln} (hv : PV π) {I : IH} (hP : PlM I 0 π) {sa : Nat → Nat} {U m : Nat} (hk : k ≤ 3) (hS : ShM I k (π 0 0) sa U m) (hV : ShV (π 0 0) sa U m) :
    ∃ I', g_X9_fall n (nI k) I = some I' ∧ ShM I' k (π 0 0) (fal π m U sa (π 0 0)) U (m + 1) ∧ (∀ b, b < 16 → I' 81 b = I 81 b + nI (flo π m U sa (π 0 0) b)) ∧ (∀ j, j < 16 * k ∨ 16 * k + 16 ≤ j → I' 74 j = I 74 j) ∧ (∀ j, j ≠ k → I' 76 j = I 76 j) ∧ ∀ id, id ≠ 74 → id ≠ 81 → id ≠ 76 → I' id = I id := by
  have hm := hV.2.1
  have hG8 : π 0 0 ≤ 8 := hv.2.1
  have h0 : mfI I I k (π 0 0) π m U sa 0 := by
    refine ⟨⟨hS.1, hS.2.1, fun b hb => ?_⟩, fun b hb => ?_, fun _ _ => rfl, fun _ _ _ => rfl⟩
    · rw [fal_hi (by omega)]; exact hS.2.2 b hb
    · have : flo π m U sa 0 b = 0 := by unfold flo; rw [if_neg (by omega)]
      rw [this]
      exact (Int32.add_zero _).symm
  obtain ⟨J, e1, ⟨j1, j2, j3⟩, j4, j5, j6⟩ := m_fall_loop hv hP hk hm hV.2.2 (π 0 0) 0 n I (by omega) (by omega) h0
  refine ⟨up2 J 76 k (nI (m + 1)), ?_, ⟨?_, ?_, ?_⟩, ?_, ?_, ?_, ?_⟩
  · rw [← e1]
    simp only [g_X9_fall, g_X9_fall_17, bnd_eq]
    rw [inB_t (by omega) (by omega), if_pos rfl, nI_clamp (by omega), hS.1, li3, pk_rem (by omega) (by omega) (by omega), li2]
    by_cases h : m % 3 = 2
    · rw [if_pos ((nI_eq (by omega) (by omega)).mpr h), if_pos h]; rfl
    · rw [if_neg (fun q => h ((nI_eq (by omega) (by omega)).mp q)), if_neg h]; rfl
  · exact up2_s _ _ _ _
  · intro i hi; rw [up2_i _ _ (by decide)]; exact j2 i hi
  · intro b hb; rw [up2_i _ _ (by decide)]; exact j3 b hb
  · intro b hb; rw [up2_i _ _ (by decide)]; exact j4 b hb
  · intro j hj; rw [up2_i _ _ (by decide)]; exact j5 j hj
  · intro j hj; rw [up2_j _ _ hj, j6 76 (by decide) (by decide)]
  · intro id h1 h2 h3; rw [up2_i _ _ h3]; exact j6 id h1 h2
