/-! Copies of shelves; many minutes. -/
theorem c_copy {n s o G : Nat} {I : IH} (hs : s = 31 ∨ s = 33 ∨ s = 49 ∨ s = 51) (ho : o = 31 ∨ o = 33 ∨ o = 49 ∨ o = 51) (hne : s ≠ o) (hG : G ≤ 8) {sa : Nat → Nat} {U m : Nat} (hS : ShC I o G sa U m) :
    ∃ I', g_X5_copyFrom n s o I = some I' ∧ ShC I' s G sa U m ∧ ∀ id, id ≠ s → id ≠ s + 1 → I' id = I id := by
  have h1 : o ≠ s + 1 := by omega
  have h2 : o + 1 ≠ s := by omega
  simp only [g_X5_copyFrom, bnd_eq]
  have e : ∀ id, id ≠ s + 1 → cpyH I (o + 1) (s + 1) 0 0 16 id = I id := fun id h => if_neg h
  refine ⟨_, rfl, ⟨?_, ?_, ?_⟩, ?_⟩
  · rw [up2_j _ _ (by omega), up2_s, e o h1]; exact hS.1
  · rw [up2_s, up2_i _ _ (fun q => hne q.symm), e o h1]; exact hS.2.1
  · intro b hb
    rw [up2_i _ _ (by omega), up2_i _ _ (by omega), show cpyH I (o + 1) (s + 1) 0 0 16 (s + 1) = va_cpy (I (o + 1)) (I (s + 1)) 0 0 16 from if_pos rfl, pk_cpy_in (by omega) (by omega)]
    rw [show 0 + (b - 0) = b by omega]
    exact hS.2.2 b hb
  · intro id i1 i2
    rw [up2_i _ _ i1, up2_i _ _ i1, e id i2]
theorem m_copy2 {a b : Nat} (ha : a ≤ 3) (hb : b ≤ 3) (hne : a ≠ b) {I : IH} :
    ∀ (d j n : Nat) (J : IH), j + d = 8 → d < n → (∀ x, x < j → J 75 (8 * b + x) = I 75 (8 * a + x)) → (∀ x, x < 8 * b ∨ 8 * b + 8 ≤ x → J 75 x = I 75 x) → (∀ id, id ≠ 74 → id ≠ 75 → J id = I id) →
    ∃ I', g_X9_copy_38 n (nI a) (nI b) (nI j) J = some I' ∧ (∀ x, x < 8 → I' 75 (8 * b + x) = I 75 (8 * a + x)) ∧ (∀ x, x < 8 * b ∨ 8 * b + 8 ≤ x → I' 75 x = I 75 x) ∧ I' 76 b = I 76 a ∧ (∀ x, x ≠ b → I' 76 x = I 76 x) ∧ I' 74 = J 74 ∧ ∀ id, id ≠ 74 → id ≠ 75 → id ≠ 76 → I' id = I id := by
  intro d
  induction d with
  | zero =>
    intro j n J hj hn h1 h2 h3
    obtain ⟨n, rfl⟩ : ∃ k, n = k + 1 := ⟨n - 1, by omega⟩
    simp only [g_X9_copy_38, bnd_eq]
    rw [li8, if_pos (nI_le (by omega) (by omega)), inB_t (by omega) (by omega), inB_t (by omega) (by omega), if_pos rfl, if_pos rfl, nI_clamp (by omega), nI_clamp (by omega), h3 76 (by decide) (by decide)]
    refine ⟨_, rfl, fun x hx => ?_, fun x hx => ?_, up2_s _ _ _ _, fun x hx => ?_, up2_i _ _ (by decide), fun id i1 i2 i3 => ?_⟩
    · rw [up2_i _ _ (by decide)]; exact h1 x (by omega)
    · rw [up2_i _ _ (by decide)]; exact h2 x hx
    · rw [up2_j _ _ hx, h3 76 (by decide) (by decide)]
    · rw [up2_i _ _ i3]; exact h3 id i1 i2
  | succ d ih =>
    intro j n J hj hn h1 h2 h3
    obtain ⟨n, rfl⟩ : ∃ k, n = k + 1 := ⟨n - 1, by omega⟩
    simp only [g_X9_copy_38, bnd_eq]
    rw [li8, if_neg (nI_ge (by omega) (by omega)), pk_mul, pk_mul, nI_add, nI_add, inB_t (by omega) (by omega), inB_t (by omega) (by omega), if_pos rfl, if_pos rfl, nI_clamp (by omega), nI_clamp (by omega), nI_1, h2 (8 * a + j) (by omega)]
    obtain ⟨I', k1, k2, k3, k4, k5, k6, k7⟩ := ih (j + 1) n (up2 J 75 (8 * b + j) (I 75 (8 * a + j))) (by omega) (by omega) (fun x hx => by
      by_cases hxj : x = j
      · subst hxj; exact up2_s _ _ _ _
      · rw [up2_j _ _ (by omega)]; exact h1 x (by omega)) (fun x hx => by rw [up2_j _ _ (by omega)]; exact h2 x hx) (fun id i1 i2 => by rw [up2_i _ _ i2]; exact h3 id i1 i2)
    exact ⟨I', k1, k2, k3, k4, k5, by rw [k6, up2_i _ _ (by decide)], k7⟩
theorem m_copy1 {a b : Nat} (ha : a ≤ 3) (hb : b ≤ 3) (hne : a ≠ b) {I : IH} :
    ∀ (d j n : Nat) (J : IH), j + d = 16 → d + 10 < n → (∀ x, x < j → J 74 (16 * b + x) = I 74 (16 * a + x)) → (∀ x, x < 16 * b ∨ 16 * b + 16 ≤ x → J 74 x = I 74 x) → (∀ id, id ≠ 74 → J id = I id) →
    ∃ I', g_X9_copy_2 n (nI a) (nI b) (nI j) J = some I' ∧ (∀ x, x < 16 → I' 74 (16 * b + x) = I 74 (16 * a + x)) ∧ (∀ x, x < 16 * b ∨ 16 * b + 16 ≤ x → I' 74 x = I 74 x) ∧ (∀ x, x < 8 → I' 75 (8 * b + x) = I 75 (8 * a + x)) ∧ (∀ x, x < 8 * b ∨ 8 * b + 8 ≤ x → I' 75 x = I 75 x) ∧ I' 76 b = I 76 a ∧ (∀ x, x ≠ b → I' 76 x = I 76 x) ∧ ∀ id, id ≠ 74 → id ≠ 75 → id ≠ 76 → I' id = I id := by
  intro d
  induction d with
  | zero =>
    intro j n J hj hn h1 h2 h3
    obtain ⟨n, rfl⟩ : ∃ k, n = k + 1 := ⟨n - 1, by omega⟩
    simp only [g_X9_copy_2]
    rw [li16, if_pos (nI_le (by omega) (by omega)), li0]
    obtain ⟨I', k1, k2, k3, k4, k5, k6, k7⟩ := m_copy2 ha hb hne (I := J) 8 0 n J (by omega) (by omega) (fun x hx => by omega) (fun _ _ => rfl) (fun _ _ _ => rfl)
    refine ⟨I', k1, fun x hx => ?_, fun x hx => ?_, fun x hx => ?_, fun x hx => ?_, ?_, fun x hx => ?_, fun id i1 i2 i3 => ?_⟩
    · rw [k6]; exact h1 x (by omega)
    · rw [k6]; exact h2 x hx
    · rw [k2 x hx, h3 75 (by decide)]
    · rw [k3 x hx, h3 75 (by decide)]
    · rw [k4, h3 76 (by decide)]
    · rw [k5 x hx, h3 76 (by decide)]
    · rw [k7 id i1 i2 i3, h3 id i1]
  | succ d ih =>
    intro j n J hj hn h1 h2 h3
    obtain ⟨n, rfl⟩ : ∃ k, n = k + 1 := ⟨n - 1, by omega⟩
    simp only [g_X9_copy_2, bnd_eq]
    rw [li16, if_neg (nI_ge (by omega) (by omega)), pk_mul, pk_mul, nI_add, nI_add, inB_t (by omega) (by omega), inB_t (by omega) (by omega), if_pos rfl, if_pos rfl, nI_clamp (by omega), nI_clamp (by omega), nI_1, h2 (16 * a + j) (by omega)]
    exact ih (j + 1) n (up2 J 74 (16 * b + j) (I 74 (16 * a + j))) (by omega) (by omega) (fun x hx => by
      by_cases hxj : x = j
      · subst hxj; exact up2_s _ _ _ _
      · rw [up2_j _ _ (by omega)]; exact h1 x (by omega)) (fun x hx => by rw [up2_j _ _ (by omega)]; exact h2 x hx) (fun id i1 => by rw [up2_i _ _ i1]; exact h3 id i1)
/-- copy of book a to book b -/
theorem m_copy {a b n : Nat} (hn : 40 ≤ n) (ha : a ≤ 3) (hb : b ≤ 3) (hne : a ≠ b) {I : IH} {G : Nat} (hG : G ≤ 8) {sa : Nat → Nat} {U m : Nat} (hS : ShM I a G sa U m) :
    ∃ I', g_X9_copy n (nI a) (nI b) I = some I' ∧ ShM I' b G sa U m ∧ (∀ x, x < 16 * b ∨ 16 * b + 16 ≤ x → I' 74 x = I 74 x) ∧ (∀ x, x < 8 * b ∨ 8 * b + 8 ≤ x → I' 75 x = I 75 x) ∧ (∀ x, x ≠ b → I' 76 x = I 76 x) ∧ ∀ id, id ≠ 74 → id ≠ 75 → id ≠ 76 → I' id = I id := by
  simp only [g_X9_copy]
  obtain ⟨I', k1, k2, k3, k4, k5, k6, k7, k8⟩ := m_copy1 ha hb hne (I := I) 16 0 n I (by omega) (by omega) (fun x hx => by omega) (fun _ _ => rfl) (fun _ _ => rfl)
  refine ⟨I', k1, ⟨?_, ?_, ?_⟩, k3, k5, k7, k8⟩
  · rw [k6]; exact hS.1
  · intro i hi; rw [k4 i (by omega)]; exact hS.2.1 i hi
  · intro x hx; rw [k2 x (by omega)]; exact hS.2.2 x hx
/-- the shelf t minutes on: its sand, and what is up -/
def goS (π : Pln) (lk lb : Nat) (sa : Nat → Nat) (U m : Nat) : Nat → (Nat → Nat) × Nat
  | 0 => (sa, U)
  | t + 1 => (fal π (m + t) (clk π (m + t) lk lb (goS π lk lb sa U m t).2 (π 11 0)) (goS π lk lb sa U m t).1 (π 0 0), clk π (m + t) lk lb (goS π lk lb sa U m t).2 (π 11 0))
/-- all the sand -/
def tot (sa : Nat → Nat) : Nat → Nat
  | 0 => 0
  | g + 1 => tot sa g + (sa (2 * g) + sa (2 * g + 1))
theorem tot_ge {sa : Nat → Nat} {b : Nat} : ∀ g, b < 2 * g → sa b ≤ tot sa g := by
  intro g
  induction g with
  | zero => intro h; omega
  | succ g ih =>
    intro h
    unfold tot
    by_cases h1 : b < 2 * g
    · have := ih h1; omega
    · rcases (by omega : b = 2 * g ∨ b = 2 * g + 1) with e | e <;> subst e <;> omega
theorem tot_eq {sa sb : Nat → Nat} : ∀ g, (∀ i, i < g → sa (2 * i) + sa (2 * i + 1) = sb (2 * i) + sb (2 * i + 1)) → tot sa g = tot sb g := by
  intro g
  induction g with
  | zero => intro _; rfl
  | succ g ih =>
    intro h
    unfold tot
    rw [ih (fun i hi => h i (by omega)), h g (by omega)]
theorem fal_tot {π : Pln} {m U : Nat} {sa : Nat → Nat} {G : Nat} : tot (fal π m U sa G) G = tot sa G := by
  apply tot_eq
  intro i hi
  unfold fal
  rw [show 2 * i / 2 = i by omega, show (2 * i + 1) / 2 = i by omega, show 2 * i % 2 = 0 by omega, show (2 * i + 1) % 2 = 1 by omega, if_pos hi, if_pos hi]
  have hb := bU_lt U i
  have hf : fln π m U sa i ≤ sa (2 * i + bU U i) := Nat.min_le_left _ _
  rcases (by omega : bU U i = 0 ∨ bU U i = 1) with e | e
  · rw [e] at hf ⊢
    rw [Nat.add_zero] at hf
    rw [if_pos rfl, if_neg (by omega)]
    omega
  · rw [e] at hf ⊢
    rw [if_neg (by omega), if_pos rfl]
    omega
theorem goS_tot {π : Pln} {lk lb : Nat} {sa : Nat → Nat} {U m : Nat} : ∀ t, tot (goS π lk lb sa U m t).1 (π 0 0) = tot sa (π 0 0) := by
  intro t
  induction t with
  | zero => rfl
  | succ t ih =>
    show tot (fal π _ _ (goS π lk lb sa U m t).1 (π 0 0)) (π 0 0) = _
    rw [fal_tot, ih]
theorem goS_U {π : Pln} (hv : PV π) {lk lb : Nat} {sa : Nat → Nat} {U m : Nat} (hU : U < 256) : ∀ t, (goS π lk lb sa U m t).2 < 256 := by
  intro t
  induction t with
  | zero => exact hU
  | succ t ih => exact clk_lt hv ih _ (Nat.le_refl _)
theorem goS_V {π : Pln} (hv : PV π) {lk lb : Nat} {sa : Nat → Nat} {U m : Nat} (hU : U < 256) (ht0 : tot sa (π 0 0) ≤ 20000) {t : Nat} (hm : m + t ≤ 1100000) : ShV (π 0 0) (goS π lk lb sa U m t).1 (goS π lk lb sa U m t).2 (m + t) := by
  refine ⟨goS_U hv hU t, hm, fun b hb => ?_⟩
  have := tot_ge (sa := (goS π lk lb sa U m t).1) (π 0 0) hb
  rw [goS_tot] at this
  omega
