/-! The reference's clerks; a whole minute in both. -/
set_option maxHeartbeats 1000000 in
theorem m_clerks_loop {b : Nat} (hb : b ≤ 3) {π : Pln} (hv : PV π) {sa : Nat → Nat} {U m lk lb : Nat} (hU : U < 256) (hm : m ≤ 1100000) (hlb : lb ≤ 99) {I : IH} (hP : PlM I 0 π) (hlk : ∀ k, k < 8 → (nI k = I 55 29 ↔ k = lk)) (hl2 : ∀ k, k < 8 → k = lk → I 55 30 = nI lb) :
    ∀ (d k n : Nat) (J : IH), k + d = π 11 0 → d + 25 < n → (∀ id, id ≠ 75 → J id = I id) → (∀ j, j < 8 * b ∨ 8 * b + 8 ≤ j → J 75 j = I 75 j) → ShM J b (π 0 0) sa (clk π m lk lb U k) m →
    ∃ I', g_X9_clerks_2 n (nI b) (nI k) J = some I' ∧ ShM I' b (π 0 0) sa (clk π m lk lb U (π 11 0)) m ∧ (∀ j, j < 8 * b ∨ 8 * b + 8 ≤ j → I' 75 j = I 75 j) ∧ ∀ id, id ≠ 75 → I' id = I id := by
  have hG8 := hv.2.1
  have hC8 := hv.2.2.2.2.2.1
  intro d
  induction d with
  | zero =>
    intro k n J hk hn hJ0 hJ1 hJ
    obtain ⟨n, rfl⟩ : ∃ k, n = k + 1 := ⟨n - 1, by omega⟩
    simp only [g_X9_clerks_2, bnd_eq]
    rw [hJ0 68 (by decide), hP.2.2.2.2.1, if_pos (nI_le (by omega) (by omega))]
    exact ⟨J, rfl, by rw [show π 11 0 = k by omega]; exact hJ, hJ1, hJ0⟩
  | succ d ih =>
    intro k n J hk hn hJ0 hJ1 hJ
    obtain ⟨n, rfl⟩ : ∃ k, n = k + 1 := ⟨n - 1, by omega⟩
    have hkC : k < π 11 0 := by omega
    obtain ⟨c1, c2, c3, c4⟩ := hv.2.2.2.2.2.2.1 k hkC
    obtain ⟨p1, p2, p3⟩ := hP.2.2.2.2.2.1 k hkC
    rw [Nat.mul_zero, Nat.zero_add] at p1 p2 p3
    have i16 : inB (nI k) 16 = true := inB_t (by omega) (by omega)
    have i4 : inB (nI b) 4 = true := inB_t (by omega) (by omega)
    simp only [g_X9_clerks_2, g_X9_clerks_41, g_X9_clerks_70, bnd_eq]
    rw [hJ0 68 (by decide), hP.2.2.2.2.1, if_neg (nI_ge hkC (by omega)), i16, i4]
    simp only [if_pos]
    rw [nI_clamp (by omega : k < 2 ^ 31), nI_clamp (by omega : b < 2 ^ 31), hJ0 69 (by decide), hJ0 70 (by decide), hJ0 71 (by decide), hJ0 55 (by decide), p1, p2, p3, hJ.1, nI_1]
    have key : ∀ dl : Nat, dl ≤ 99 → (dl = if k = lk then lb else 0) → ∃ I', (if nI m - nI (π 14 k) - nI dl < 0 then g_X9_clerks_2 n (nI b) (nI (k + 1)) J else if nI (π 13 k) = 0 then none else if nI m - nI (π 14 k) - nI dl - (nI m - nI (π 14 k) - nI dl) / nI (π 13 k) * nI (π 13 k) = 0 then match g_X9_turnOf n (nI b) (nI (π 12 k)) J with | none => none | some (r20, J19) => g_X9_clerks_2 n (nI b) (nI (k + 1)) J19 else g_X9_clerks_2 n (nI b) (nI (k + 1)) J) = some I' ∧ ShM I' b (π 0 0) sa (clk π m lk lb U (π 11 0)) m ∧ (∀ j, j < 8 * b ∨ 8 * b + 8 ≤ j → I' 75 j = I 75 j) ∧ ∀ id, id ≠ 75 → I' id = I id := by
      intro dl hdl edl
      have same : clk π m lk lb U (k + 1) = clk π m lk lb U k → ∃ I', g_X9_clerks_2 n (nI b) (nI (k + 1)) J = some I' ∧ ShM I' b (π 0 0) sa (clk π m lk lb U (π 11 0)) m ∧ (∀ j, j < 8 * b ∨ 8 * b + 8 ≤ j → I' 75 j = I 75 j) ∧ ∀ id, id ≠ 75 → I' id = I id := fun e => ih (k + 1) n J (by omega) (by omega) hJ0 hJ1 (by rw [e]; exact hJ)
      by_cases h1 : π 14 k + dl ≤ m
      · rw [if_neg (fun q => (late_neg (by omega) (by omega)).mp q h1), if_neg (by rw [li0, nI_eq (by omega) (by omega)]; omega), late_eq h1, pk_rem (by omega) (by omega) (by omega)]
        have hmod : (m - (π 14 k + dl)) % π 13 k < π 13 k := Nat.mod_lt _ (by omega)
        by_cases h2 : (m - (π 14 k + dl)) % π 13 k = 0
        · rw [if_pos (by rw [h2]; rfl)]
          obtain ⟨I1, f1, f2, f3, f4⟩ := m_turn (n := n) (by omega) hv (PlM_congr (by omega) (fun j h1 h2 => hJ0 j (by omega)) hP) hb c1 hJ
          rw [f1]
          dsimp only
          have e : clk π m lk lb U (k + 1) = clk π m lk lb U k ^^^ cl π (π 12 k) := by
            show (if _ then _ else _) = _
            rw [if_pos (by rw [← edl]; exact ⟨h1, h2⟩)]
          exact ih (k + 1) n I1 (by omega) (by omega) (fun id h => by rw [f4 id h]; exact hJ0 id h) (fun j hj => by rw [f3 j hj]; exact hJ1 j hj) (by rw [e]; exact f2)
        · rw [if_neg (by rw [li0, nI_eq (by omega) (by omega)]; exact h2)]
          exact same (by show (if _ then _ else _) = _; rw [if_neg (by rw [← edl]; exact fun q => h2 q.2)])
      · rw [if_pos ((late_neg (by omega) (by omega)).mpr h1)]
        exact same (by show (if _ then _ else _) = _; rw [if_neg (by rw [← edl]; exact fun q => h1 q.1)])
    by_cases hl : k = lk
    · rw [if_pos ((hlk k (by omega)).mpr hl), hl2 k (by omega) hl]
      exact key lb hlb (by rw [if_pos hl])
    · rw [if_neg (fun q => hl ((hlk k (by omega)).mp q))]
      exact key 0 (by omega) (by rw [if_neg hl])
/-- the clerks of a minute, class -/
theorem c_clerks {q s n : Nat} (hn : 9 ≤ n) (hs : s = 31 ∨ s = 33) (hq : q = 5 ∨ q = 18) {π : Pln} (hv : PV π) {sa : Nat → Nat} {U m lk lb : Nat} (hU : U < 256) (hm : m ≤ 1100000) {v2 : Int32} (hlk : ∀ k, k < 8 → (nI k = v2 ↔ k = lk)) (hlb : lb ≤ 99) {I : IH} (hP : PlC I q π) (hT : TuC I q π) (hS : ShC I s (π 0 0) sa U m) :
    ∃ I', g_X5_letClerksTurn n s q v2 (nI lb) I = some I' ∧ ShC I' s (π 0 0) sa (clk π m lk lb U (π 11 0)) m ∧ ∀ id, id ≠ s → I' id = I id := by
  have hC8 := hv.2.2.2.2.2.1
  simp only [g_X5_letClerksTurn]
  exact c_clerks_loop hs hq hv hU hm hlk hlb (π 11 0) 0 n I (by omega) (by omega) hP hT hS
theorem m_clerks {b n : Nat} (hn : 40 ≤ n) (hb : b ≤ 3) {π : Pln} (hv : PV π) {sa : Nat → Nat} {U m lk lb : Nat} (hU : U < 256) (hm : m ≤ 1100000) (hlb : lb ≤ 99) {I : IH} (hP : PlM I 0 π) (hlk : ∀ k, k < 8 → (nI k = I 55 29 ↔ k = lk)) (hl2 : ∀ k, k < 8 → k = lk → I 55 30 = nI lb) (hS : ShM I b (π 0 0) sa U m) :
    ∃ I', g_X9_clerks n (nI b) I = some I' ∧ ShM I' b (π 0 0) sa (clk π m lk lb U (π 11 0)) m ∧ (∀ j, j < 8 * b ∨ 8 * b + 8 ≤ j → I' 75 j = I 75 j) ∧ ∀ id, id ≠ 75 → I' id = I id := by
  have hC8 := hv.2.2.2.2.2.1
  simp only [g_X9_clerks]
  exact m_clerks_loop hb hv hU hm hlb hP hlk hl2 (π 11 0) 0 n I (by omega) (by omega) (fun _ _ => rfl) (fun _ _ => rfl) hS
/-! ### what stands -/
def stn (sa : Nat → Nat) (U : Nat) : Nat → Nat
  | 0 => 0
  | g + 1 => stn sa U g + (if sa (2 * g + bU U g) = 0 then 1 else 0)
theorem stn_le (sa : Nat → Nat) (U : Nat) : ∀ g, stn sa U g ≤ g := by
  intro g
  induction g with
  | zero => exact Nat.le_refl _
  | succ g ih => unfold stn; split <;> omega
theorem c_upperBulb {n s i U : Nat} {I : IH} (h : I s 1 = nI U) (hU : U < 256) (hi : i < 8) : g_X5_upperBulb n s (nI i) I = some (nI (2 * i + bU U i), I) := by
  simp only [g_X5_upperBulb, g_X5_upperSide]
  rw [h, nI_bit (by omega) (by omega), li2, pk_mul, nI_add]
theorem c_standing_loop {s q : Nat} {π : Pln} (hv : PV π) {I : IH} (hP0 : I q 0 = nI (π 0 0)) {sa : Nat → Nat} {U m : Nat} (hS : ShC I s (π 0 0) sa U m) (hV : ShV (π 0 0) sa U m) :
    ∀ (d g n : Nat), g + d = π 0 0 → d < n → g_X5_standing_4 s q n (nI (stn sa U g)) (nI g) I = some (nI (stn sa U (π 0 0)), I) := by
  have hG8 := hv.2.1
  intro d
  induction d with
  | zero =>
    intro g n hg hn
    obtain ⟨n, rfl⟩ : ∃ k, n = k + 1 := ⟨n - 1, by omega⟩
    simp only [g_X5_standing_4]
    rw [if_pos (by rw [hP0]; exact nI_le (by omega) (by omega)), show g = π 0 0 by omega]
  | succ d ih =>
    intro g n hg hn
    obtain ⟨n, rfl⟩ : ∃ k, n = k + 1 := ⟨n - 1, by omega⟩
    have hgG : g < π 0 0 := by omega
    have hx := bx_lt (U := U) hgG
    have := hV.2.2 _ hx
    have k := ih (g + 1) n (by omega) (by omega)
    rw [show stn sa U (g + 1) = stn sa U g + (if sa (2 * g + bU U g) = 0 then 1 else 0) from rfl] at k
    simp only [g_X5_standing_4, g_X5_standing_28, bnd_eq]
    rw [if_neg (by rw [hP0]; exact nI_ge hgG (by omega)), c_upperBulb hS.1 hV.1 (by omega)]
    dsimp only
    rw [inB_t (by omega) (by omega), if_pos rfl, nI_clamp (by omega), hS.2.2 _ hx, nI_1, nI_1]
    by_cases h : sa (2 * g + bU U g) = 0
    · rw [if_pos h] at k
      rw [if_pos (by rw [h]; rfl)]
      exact k
    · rw [if_neg h, Nat.add_zero] at k
      rw [if_neg (by rw [li0, nI_eq (by omega) (by omega)]; exact h)]
      exact k
theorem c_standing {s q n : Nat} (hn : 9 ≤ n) {π : Pln} (hv : PV π) {I : IH} (hP0 : I q 0 = nI (π 0 0)) {sa : Nat → Nat} {U m : Nat} (hS : ShC I s (π 0 0) sa U m) (hV : ShV (π 0 0) sa U m) : g_X5_standing n s q I = some (nI (stn sa U (π 0 0)), I) := by
  have hG8 := hv.2.1
  simp only [g_X5_standing]
  exact c_standing_loop hv hP0 hS hV (π 0 0) 0 n (by omega) (by omega)
theorem m_standing_loop {b : Nat} (hb : b ≤ 3) {π : Pln} (hv : PV π) {I : IH} (hP0 : I 57 0 = nI (π 0 0)) {sa : Nat → Nat} {U m : Nat} (hS : ShM I b (π 0 0) sa U m) (hV : ShV (π 0 0) sa U m) :
    ∀ (d g n : Nat), g + d = π 0 0 → d < n → g_X9_standing_4 n (nI b) (nI (stn sa U g)) (nI g) I = some (nI (stn sa U (π 0 0)), I) := by
  have hG8 := hv.2.1
  intro d
  induction d with
  | zero =>
    intro g n hg hn
    obtain ⟨n, rfl⟩ : ∃ k, n = k + 1 := ⟨n - 1, by omega⟩
    simp only [g_X9_standing_4, bnd_eq]
    rw [hP0, if_pos (nI_le (by omega) (by omega)), show g = π 0 0 by omega]
  | succ d ih =>
    intro g n hg hn
    obtain ⟨n, rfl⟩ : ∃ k, n = k + 1 := ⟨n - 1, by omega⟩
    have hgG : g < π 0 0 := by omega
    have hx := bx_lt (U := U) hgG
    have := hV.2.2 _ hx
    have k := ih (g + 1) n (by omega) (by omega)
    rw [show stn sa U (g + 1) = stn sa U g + (if sa (2 * g + bU U g) = 0 then 1 else 0) from rfl] at k
    simp only [g_X9_standing_4, g_X9_standing_34, bnd_eq]
    rw [hP0, if_neg (nI_ge hgG (by omega)), m_upper hb (by omega) (hS.2.1 g hgG) (bU_lt U g)]
    dsimp only
    rw [inB_t (by omega) (by omega), if_pos rfl, nI_clamp (by omega), Nat.add_assoc, hS.2.2 _ hx, nI_1]
    by_cases h : sa (2 * g + bU U g) = 0
    · rw [if_pos h] at k
      rw [if_pos (by rw [h]; rfl), nI_1]
      exact k
    · rw [if_neg h, Nat.add_zero] at k
      rw [if_neg (by rw [li0, nI_eq (by omega) (by omega)]; exact h), Int32.add_zero, nI_1]
      exact k
theorem m_standing {b n : Nat} (hn : 9 ≤ n) (hb : b ≤ 3) {π : Pln} (hv : PV π) {I : IH} (hP0 : I 57 0 = nI (π 0 0)) {sa : Nat → Nat} {U m : Nat} (hS : ShM I b (π 0 0) sa U m) (hV : ShV (π 0 0) sa U m) : g_X9_standing n (nI b) I = some (nI (stn sa U (π 0 0)), I) := by
  have hG8 := hv.2.1
  simp only [g_X9_standing]
  exact m_standing_loop hb hv hP0 hS hV (π 0 0) 0 n (by omega) (by omega)
