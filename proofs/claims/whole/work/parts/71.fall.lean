/-! One minute's sand, in the class and in the reference. -/
theorem flw_le {π : Pln} (hv : PV π) {m i : Nat} (hi : i < π 0 0) : flw π m i ≤ 120 := by
  obtain ⟨-, -, h, -⟩ := hv
  obtain ⟨-, -, h2, -⟩ := h i hi
  unfold flw
  split
  · split
    · omega
    · split <;> omega
  · omega
theorem bx_lt {U i G : Nat} (h : i < G) : 2 * i + bU U i < 2 * G := by have := bU_lt U i; omega
theorem xor1 {U i : Nat} (hi : i < 16) : (2 * i + bU U i) ^^^ 1 = 2 * i + (1 - bU U i) := by
  have h := bU_lt U i
  have k0 : ∀ i, i < 16 → (2 * i + 0) ^^^ 1 = 2 * i + (1 - 0) := by decide
  have k1 : ∀ i, i < 16 → (2 * i + 1) ^^^ 1 = 2 * i + (1 - 1) := by decide
  rcases (by omega : bU U i = 0 ∨ bU U i = 1) with e | e
  · rw [e]; exact k0 i hi
  · rw [e]; exact k1 i hi
theorem fal_succ {π : Pln} {m U : Nat} {sa : Nat → Nat} {g b : Nat} : fal π m U sa (g + 1) b = if b = 2 * g + bU U g then sa b - fln π m U sa g else if b = 2 * g + (1 - bU U g) then sa b + fln π m U sa g else fal π m U sa g b := by
  have h := bU_lt U g
  unfold fal
  by_cases h1 : b / 2 = g
  · subst h1
    rw [if_pos (by omega)]
    by_cases h2 : b % 2 = bU U (b / 2)
    · rw [if_pos h2, if_pos (by omega)]
    · rw [if_neg h2, if_neg (by omega), if_pos (by omega)]
  · rw [if_neg (by omega : ¬ b = 2 * g + bU U g), if_neg (by omega : ¬ b = 2 * g + (1 - bU U g))]
    by_cases h2 : b / 2 < g
    · rw [if_pos (by omega), if_pos h2]
    · rw [if_neg (by omega), if_neg h2]
theorem fal_hi {π : Pln} {m U : Nat} {sa : Nat → Nat} {g b : Nat} (h : g ≤ b / 2) : fal π m U sa g b = sa b := by
  unfold fal
  rw [if_neg (by omega)]
theorem fal_bd {π : Pln} (hv : PV π) {m U : Nat} {sa : Nat → Nat} {g b : Nat} (hg : g ≤ π 0 0) (hs : ∀ b, b < 2 * π 0 0 → sa b ≤ 20000) (hb : b < 2 * π 0 0) : fal π m U sa g b ≤ 20120 := by
  unfold fal
  have := hs b hb
  split
  · have := flw_le hv (m := m) (i := b / 2) (by omega)
    have : fln π m U sa (b / 2) ≤ 120 := Nat.le_trans (Nat.min_le_right _ _) this
    split <;> omega
  · omega
theorem min_nI {a b : Nat} (ha : a < 2 ^ 31) (hb : b < 2 ^ 31) : (if nI b < nI a then nI b else nI a) = nI (min a b) := by
  by_cases h : b < a
  · rw [if_pos ((nI_ltI hb ha).mpr h), Nat.min_eq_right (by omega)]
  · rw [if_neg (fun q => h ((nI_ltI hb ha).mp q)), Nat.min_eq_left (by omega)]
set_option maxHeartbeats 1000000 in
theorem c_fall_loop {q s : Nat} (hs : s = 31 ∨ s = 33) (hq : q = 5 ∨ q = 18) {π : Pln} (hv : PV π) {sa : Nat → Nat} {U m m2 : Nat} (hU : U < 256) (hm : m ≤ 1100000) (hsa : ∀ b, b < 2 * π 0 0 → sa b ≤ 20000) (hm2 : m2 = q + 7 ∨ m2 = q + 6) :
    ∀ (d g n : Nat) (J : IH), g + d = π 0 0 → d < n → J q 0 = nI (π 0 0) → (∀ i, i < π 0 0 → J m2 i = nI (flw π m i)) → ShC J s (π 0 0) (fal π m U sa g) U m →
    ∃ I', g_X5_letSandFall_11 s q n m2 (nI g) J = some I' ∧ ShC I' s (π 0 0) (fal π m U sa (π 0 0)) U (m + 1) ∧ ∀ id, id ≠ s → id ≠ s + 1 → I' id = J id := by
  have hG8 : π 0 0 ≤ 8 := hv.2.1
  intro d
  induction d with
  | zero =>
    intro g n J hg hn hJ0 hJm hJ
    obtain ⟨n, rfl⟩ : ∃ k, n = k + 1 := ⟨n - 1, by omega⟩
    obtain ⟨j1, j2, j3⟩ := hJ
    simp only [g_X5_letSandFall_11, bnd_eq]
    rw [if_pos (by rw [hJ0]; exact nI_le (by omega) (by omega))]
    have hgG : g = π 0 0 := by omega
    refine ⟨_, rfl, ⟨?_, ?_, ?_⟩, ?_⟩
    · rw [up2_j _ _ (by omega)]; exact j1
    · rw [up2_s, j2]; exact nI_1 m
    · intro b hb
      rw [up2_i _ _ (by omega), ← hgG]
      exact j3 b hb
    · intro id h1 h2
      exact up2_i _ _ h1
  | succ d ih =>
    intro g n J hg hn hJ0 hJm hJ
    obtain ⟨n, rfl⟩ : ∃ k, n = k + 1 := ⟨n - 1, by omega⟩
    obtain ⟨j1, j2, j3⟩ := hJ
    have hgG : g < π 0 0 := by omega
    have hb := bU_lt U g
    have hf := flw_le hv (m := m) hgG
    have hx := bx_lt (U := U) hgG
    have hsx := hsa _ hx
    have hsy := hsa (2 * g + (1 - bU U g)) (by omega)
    have e7 : 2 * nI g + ((J s 1 >>> (nI g &&& 31)) &&& 1) = nI (2 * g + bU U g) := by
      rw [j1, nI_bit (by omega) (by omega), li2, pk_mul, nI_add]
    have e8 : nI (2 * g + bU U g) ^^^ 1 = nI (2 * g + (1 - bU U g)) := by rw [li1, nI_xor, xor1 (by omega)]
    simp only [g_X5_letSandFall_11, bnd_eq]
    rw [if_neg (by rw [hJ0]; exact nI_ge hgG (by omega)), e7]
    have c1 : inB (nI (2 * g + bU U g)) 16 = true := inB_t (by omega) (by omega)
    have c2 : inB (nI g) 8 = true := inB_t (by omega) (by omega)
    have c3 : inB (nI (2 * g + (1 - bU U g))) 16 = true := inB_t (by omega) (by omega)
    rw [e8]
    simp only [c1, c2, c3, if_pos]
    rw [nI_clamp (by omega : 2 * g + bU U g < 2 ^ 31), nI_clamp (by omega : g < 2 ^ 31), nI_clamp (by omega : 2 * g + (1 - bU U g) < 2 ^ 31), j3 _ hx, hJm g hgG, fal_hi (by omega), min_nI (by omega) (by omega), show min (sa (2 * g + bU U g)) (flw π m g) = fln π m U sa g from rfl]
    have hfl : fln π m U sa g ≤ sa (2 * g + bU U g) := Nat.min_le_left _ _
    rw [pk_sub hfl, up2_j _ _ (by omega), j3 _ (by omega), fal_hi (by omega), nI_add, nI_1]
    have hm2s : m2 ≠ s ∧ m2 ≠ s + 1 ∧ q ≠ s ∧ q ≠ s + 1 := by omega
    obtain ⟨I', k1, k2, k3⟩ := ih (g + 1) n (up2 (up2 J (s + 1) (2 * g + bU U g) (nI (sa (2 * g + bU U g) - fln π m U sa g))) (s + 1) (2 * g + (1 - bU U g)) (nI (sa (2 * g + (1 - bU U g)) + fln π m U sa g))) (by omega) (by omega)
      (by rw [up2_i _ _ hm2s.2.2.2, up2_i _ _ hm2s.2.2.2]; exact hJ0) (fun i hi => by rw [up2_i _ _ hm2s.2.1, up2_i _ _ hm2s.2.1]; exact hJm i hi)
      ⟨by rw [up2_i _ _ (by omega), up2_i _ _ (by omega)]; exact j1, by rw [up2_i _ _ (by omega), up2_i _ _ (by omega)]; exact j2, fun b hb => by
        rw [fal_succ]
        by_cases h2 : b = 2 * g + (1 - bU U g)
        · subst h2
          rw [up2_s, if_neg (by omega), if_pos rfl]
        · rw [up2_j _ _ h2, if_neg h2]
          by_cases h1 : b = 2 * g + bU U g
          · subst h1
            rw [up2_s, if_pos rfl]
          · rw [up2_j _ _ h1, if_neg h1]
            exact j3 b hb⟩
    refine ⟨I', k1, k2, fun id h1 h2 => ?_⟩
    rw [k3 id h1 h2, up2_i _ _ h2, up2_i _ _ h2]
theorem c_flowIn {n q m : Nat} {I : IH} (hm : m < 2 ^ 31) : g_X5_flowIn n q (nI m) I = some (if m % 3 = 2 then q + 7 else q + 6, I) := by
  simp only [g_X5_flowIn]
  rw [li3, pk_rem hm (by omega) (by omega), li2]
  by_cases h : m % 3 = 2
  · rw [if_pos ((nI_eq (by omega) (by omega)).mpr h), if_pos h]
  · rw [if_neg (fun q => h ((nI_eq (by omega) (by omega)).mp q)), if_neg h]
theorem c_fall {q s n : Nat} (hs : s = 31 ∨ s = 33) (hq : q = 5 ∨ q = 18) (hn : 9 ≤ n) {π : Pln} (hv : PV π) {I : IH} (hP : PlC I q π) {sa : Nat → Nat} {U m : Nat} (hS : ShC I s (π 0 0) sa U m) (hV : ShV (π 0 0) sa U m) :
    ∃ I', g_X5_letSandFall n s q I = some I' ∧ ShC I' s (π 0 0) (fal π m U sa (π 0 0)) U (m + 1) ∧ ∀ id, id ≠ s → id ≠ s + 1 → I' id = I id := by
  have hm := hV.2.1
  have hG8 : π 0 0 ≤ 8 := hv.2.1
  simp only [g_X5_letSandFall]
  rw [hS.2.1, c_flowIn (by omega)]
  dsimp only
  refine c_fall_loop hs hq hv hV.1 hV.2.1 hV.2.2 (by split <;> omega) (π 0 0) 0 n I (by omega) (by omega) hP.1 (fun i hi => ?_) ?_
  · obtain ⟨-, h, -⟩ := hP
    obtain ⟨-, -, -, -, -, -, -, h6, h7, -⟩ := h i hi
    unfold flw
    by_cases h3 : m % 3 = 2
    · rw [if_pos h3, h7]
      congr 1
      split <;> simp [h3]
    · rw [if_neg h3, h6]
      congr 1
      split
      next h => simp [h, h3]
      next h =>
        split <;> simp_all
  · refine ⟨hS.1, hS.2.1, fun b hb => ?_⟩
    rw [fal_hi (by omega)]
    exact hS.2.2 b hb
