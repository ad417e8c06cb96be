/-! Ranges of arguments; many minutes in the class. -/
theorem c_within {n : Nat} {a lo hi : Int32} {I : IH} : g_X8_within n a lo hi I = some (if lo ≤ a ∧ a ≤ hi then 1 else 0, I) := by
  simp only [g_X8_within]
  by_cases h1 : a < lo
  · rw [if_pos h1, if_neg (fun q => absurd q.1 (Int32.not_le.mpr h1))]
  · rw [if_neg h1]
    by_cases h2 : hi < a
    · rw [if_pos h2, if_neg (fun q => absurd q.2 (Int32.not_le.mpr h2))]
    · rw [if_neg h2, if_pos ⟨Int32.not_lt.mp h1, Int32.not_lt.mp h2⟩]
theorem cmp_neg {x y : Int64} : (lg_cmp x y < 0) ↔ x < y := by
  unfold lg_cmp
  by_cases h1 : y < x
  · rw [if_pos h1]
    exact ⟨fun q => absurd q (by decide), fun q => absurd q (Int64.not_lt.mpr (Int64.le_of_lt h1))⟩
  · rw [if_neg h1]
    by_cases h2 : x = y
    · rw [if_pos h2]
      subst h2
      exact ⟨fun q => absurd q (by decide), fun q => absurd q (Int64.lt_irrefl)⟩
    · rw [if_neg h2]
      refine ⟨fun _ => ?_, fun _ => by decide⟩
      exact Int64.lt_of_le_of_ne (Int64.not_lt.mp h1) h2
theorem cmp_pos {x y : Int64} : (0 < lg_cmp x y) ↔ y < x := by
  unfold lg_cmp
  by_cases h1 : y < x
  · rw [if_pos h1]
    exact ⟨fun _ => h1, fun _ => by decide⟩
  · rw [if_neg h1]
    refine ⟨fun q => ?_, fun q => absurd q h1⟩
    by_cases h2 : x = y
    · rw [if_pos h2] at q; exact absurd q (by decide)
    · rw [if_neg h2] at q; exact absurd q (by decide)
theorem l64_lt {a b : Int32} : (Int32.toInt64 a < Int32.toInt64 b) ↔ a < b := by
  rw [Int64.lt_iff_toInt_lt, Int32.lt_iff_toInt_lt, Int32.toInt_toInt64, Int32.toInt_toInt64]
theorem m_in {n : Nat} {a lo hi : Int32} {I : IH} : g_X9_in n (Int32.toInt64 a) (Int32.toInt64 lo) (Int32.toInt64 hi) I = some (if lo ≤ a ∧ a ≤ hi then 1 else 0, I) := by
  simp only [g_X9_in, cmp_neg, cmp_pos, l64_lt]
  by_cases h1 : a < lo
  · rw [if_pos h1, if_neg (fun q => absurd q.1 (Int32.not_le.mpr h1))]
  · rw [if_neg h1]
    by_cases h2 : hi < a
    · rw [if_pos h2, if_neg (fun q => absurd q.2 (Int32.not_le.mpr h2))]
    · rw [if_neg h2, if_pos ⟨Int32.not_lt.mp h1, Int32.not_lt.mp h2⟩]
theorem j0 : (0 : Int64) = Int32.toInt64 0 := by decide +kernel
theorem j1 : (1 : Int64) = Int32.toInt64 1 := by decide +kernel
theorem j2 : (2 : Int64) = Int32.toInt64 2 := by decide +kernel
theorem j3 : (3 : Int64) = Int32.toInt64 3 := by decide +kernel
theorem j5 : (5 : Int64) = Int32.toInt64 5 := by decide +kernel
theorem j8 : (8 : Int64) = Int32.toInt64 8 := by decide +kernel
theorem j48 : (48 : Int64) = Int32.toInt64 48 := by decide +kernel
theorem j57 : (57 : Int64) = Int32.toInt64 57 := by decide +kernel
theorem j60 : (60 : Int64) = Int32.toInt64 60 := by decide +kernel
theorem j99 : (99 : Int64) = Int32.toInt64 99 := by decide +kernel
theorem j200 : (200 : Int64) = Int32.toInt64 200 := by decide +kernel
theorem j999 : (999 : Int64) = Int32.toInt64 999 := by decide +kernel
theorem j2000 : (2000 : Int64) = Int32.toInt64 2000 := by decide +kernel
theorem j9999 : (9999 : Int64) = Int32.toInt64 9999 := by decide +kernel
theorem j20000 : (20000 : Int64) = Int32.toInt64 20000 := by decide +kernel
theorem jm1 : (-1 : Int64) = Int32.toInt64 (-1) := by decide +kernel
theorem r01 {C : Prop} {h : Decidable C} {α : Type} (x y : α) : (if (if C then (1 : Int32) else 0) = 0 then x else y) = if C then y else x := by
  by_cases hc : C
  · rw [if_pos hc, if_pos hc, if_neg (by decide)]
  · rw [if_neg hc, if_neg hc, if_pos rfl]
theorem r01s {C : Prop} {h : Decidable C} {α : Type} (x y : α) : (if (if C then (1 : Int32) else 0) = 0 ∨ (if C then (1 : Int32) else 0) = 1 then x else y) = x := by
  by_cases hc : C
  · rw [if_pos hc, if_pos (Or.inr rfl)]
  · rw [if_neg hc, if_pos (Or.inl rfl)]
theorem c_isHand {n : Nat} {a : Int32} {I : IH} : g_X8_isHand n a I = some (if 0 ≤ a ∧ a ≤ 5 then 1 else 0, I) := by
  simp only [g_X8_isHand, c_within, r01s]
theorem m_isHand {n : Nat} {a : Int32} {I : IH} : g_X9_isHand n a I = some (if 0 ≤ a ∧ a ≤ 5 then 1 else 0, I) := by
  simp only [g_X9_isHand]
  rw [j0, j5, m_in]
  simp only [r01s]
theorem m_isLater {n : Nat} {a : Int32} {I : IH} : g_X9_isLater n a I = some (if 0 ≤ a ∧ a ≤ 20000 then 1 else 0, I) := by
  simp only [g_X9_isLater]
  rw [j0, j20000, m_in]
  simp only [r01s]
theorem c_isGlass {n p : Nat} {a : Int32} {I : IH} : g_X8_isGlass n p a I = some (if 0 ≤ a ∧ a ≤ I p 0 - 1 then 1 else 0, I) := by
  simp only [g_X8_isGlass, c_within, r01s]
theorem m_isGlass {n : Nat} {a : Int32} {I : IH} : g_X9_isGlass n a I = some (if 0 ≤ a ∧ a ≤ I 57 0 - 1 then 1 else 0, I) := by
  simp only [g_X9_isGlass, bnd_eq]
  rw [j0, m_in]
  simp only [r01s]
/-- an argument in a range is a number -/
theorem rng_of {a hi : Int32} {N : Nat} (hN : hi = nI N) (hN2 : N < 2 ^ 31) (h : 0 ≤ a ∧ a ≤ hi) : ∃ x, x ≤ N ∧ a = nI x := by
  subst hN
  exact nI_of2 (nI_toInt hN2) (Int32.not_lt.mpr h.1) h.2
theorem rng_in {hi : Int32} {N x : Nat} (hN : hi = nI N) (hN2 : N < 2 ^ 31) (h : x ≤ N) : 0 ≤ nI x ∧ nI x ≤ hi := by
  subst hN
  exact ⟨nI_pos' (by omega), nI_le h hN2⟩
theorem gl_of {a : Int32} {G : Nat} (h1 : 1 ≤ G) (h8 : G ≤ 8) (h : 0 ≤ a ∧ a ≤ nI G - 1) : ∃ x, x < G ∧ a = nI x := by
  have e : nI G - 1 = nI (G - 1) := by rw [li1, pk_sub h1]
  obtain ⟨x, h2, h3⟩ := rng_of e (by omega) h
  exact ⟨x, by omega, h3⟩
/-- minutes go by in the class -/
theorem c_go_loop {q s : Nat} (hs : s = 31 ∨ s = 33) (hq : q = 5 ∨ q = 18) {π : Pln} (hv : PV π) {sa : Nat → Nat} {U m t lk lb : Nat} (hU : U < 256) (ht0 : tot sa (π 0 0) ≤ 20000) (hm : m + t ≤ 1100000) {v2 : Int32} (hlk : ∀ k, k < 8 → (nI k = v2 ↔ k = lk)) (hlb : lb ≤ 99) :
    ∀ (d k n : Nat) (J : IH), k + d = t → d + 10 < n → PlC J q π → TuC J q π → ShC J s (π 0 0) (goS π lk lb sa U m k).1 (goS π lk lb sa U m k).2 (m + k) →
    ∃ I', g_X5_goOn_3 s q n (nI t) v2 (nI lb) (nI k) J = some I' ∧ ShC I' s (π 0 0) (goS π lk lb sa U m t).1 (goS π lk lb sa U m t).2 (m + t) ∧ ∀ id, id ≠ s → id ≠ s + 1 → I' id = J id := by
  intro d
  induction d with
  | zero =>
    intro k n J hk hn hP hT hJ
    obtain ⟨n, rfl⟩ : ∃ k, n = k + 1 := ⟨n - 1, by omega⟩
    simp only [g_X5_goOn_3]
    rw [if_pos (nI_le (by omega) (by omega))]
    exact ⟨J, rfl, by rw [show t = k by omega]; exact hJ, fun _ _ _ => rfl⟩
  | succ d ih =>
    intro k n J hk hn hP hT hJ
    obtain ⟨n, rfl⟩ : ∃ k, n = k + 1 := ⟨n - 1, by omega⟩
    have hV := goS_V hv (lk := lk) (lb := lb) hU ht0 (t := k) (m := m) (by omega)
    simp only [g_X5_goOn_3, bnd_eq]
    obtain ⟨J1, a1, a2, a3⟩ := c_clerks (n := n) (by omega) hs hq hv hV.1 hV.2.1 hlk hlb hP hT hJ
    have hP1 : PlC J1 q π := PlC_congr (fun j hj => a3 _ (by omega)) hP
    obtain ⟨J2, b1, b2, b3⟩ := c_fall (n := n) hs hq (by omega) hv hP1 a2 ⟨clk_lt hv hV.1 _ (Nat.le_refl _), hV.2.1, hV.2.2⟩
    rw [if_neg (nI_ge (by omega) (by omega)), a1]
    dsimp only
    rw [b1]
    dsimp only
    rw [nI_1]
    obtain ⟨I', k1, k2, k3⟩ := ih (k + 1) n J2 (by omega) (by omega) (PlC_congr (fun j hj => b3 _ (by omega) (by omega)) hP1) (fun x hx => by rw [b3 _ (by omega) (by omega), a3 _ (by omega)]; exact hT x hx) b2
    exact ⟨I', k1, k2, fun id h1 h2 => by rw [k3 id h1 h2, b3 id h1 h2, a3 id h1]⟩
theorem c_go {q s n : Nat} (hs : s = 31 ∨ s = 33) (hq : q = 5 ∨ q = 18) {π : Pln} (hv : PV π) {sa : Nat → Nat} {U m t lk lb : Nat} (hn : t + 12 ≤ n) (hU : U < 256) (ht0 : tot sa (π 0 0) ≤ 20000) (hm : m + t ≤ 1100000) {v2 : Int32} (hlk : ∀ k, k < 8 → (nI k = v2 ↔ k = lk)) (hlb : lb ≤ 99) {I : IH} (hP : PlC I q π) (hT : TuC I q π) (hS : ShC I s (π 0 0) sa U m) :
    ∃ I', g_X5_goOn n s q (nI t) v2 (nI lb) I = some I' ∧ ShC I' s (π 0 0) (goS π lk lb sa U m t).1 (goS π lk lb sa U m t).2 (m + t) ∧ ∀ id, id ≠ s → id ≠ s + 1 → I' id = I id := by
  simp only [g_X5_goOn]
  exact c_go_loop hs hq hv hU ht0 hm hlk hlb t 0 n I (by omega) (by omega) hP hT hS
theorem c_look {p n : Nat} (hp : p = 5 ∨ p = 18) {π : Pln} (hv : PV π) {sa : Nat → Nat} {U m t lk lb : Nat} (hn : t + 12 ≤ n) (hU : U < 256) (ht0 : tot sa (π 0 0) ≤ 20000) (hm : m + t ≤ 1100000) {v2 : Int32} (hlk : ∀ k, k < 8 → (nI k = v2 ↔ k = lk)) (hlb : lb ≤ 99) {I : IH} (hP : PlC I p π) (hT : TuC I p π) (hS : ShC I 31 (π 0 0) sa U m) :
    ∃ I', g_X8_lookAhead n p (nI t) v2 (nI lb) I = some I' ∧ ShC I' 33 (π 0 0) (goS π lk lb sa U m t).1 (goS π lk lb sa U m t).2 (m + t) ∧ ∀ id, id ≠ 33 → id ≠ 34 → I' id = I id := by
  simp only [g_X8_lookAhead]
  obtain ⟨J1, a1, a2, a3⟩ := c_copy (n := n) (s := 33) (o := 31) (by omega) (by omega) (by omega) hv.2.1 hS
  obtain ⟨J2, b1, b2, b3⟩ := c_go (n := n) (s := 33) (by omega) hp hv hn hU ht0 hm hlk hlb (PlC_congr (fun j hj => a3 _ (by omega) (by omega)) hP) (fun x hx => by rw [a3 _ (by omega) (by omega)]; exact hT x hx) a2
  rw [a1]
  dsimp only
  rw [b1]
  exact ⟨J2, rfl, b2, fun id h1 h2 => by rw [b3 id h1 h2, a3 id h1 h2]⟩
/-- nobody is late: -1 is no clerk -/
theorem nobody : ∀ k, k < 8 → (nI k = (-1 : Int32) ↔ k = 99) := by decide +kernel
theorem nobody4 : ∀ k, k < 8 → (nI k = (-4 : Int32) ↔ k = 99) := by decide +kernel
theorem late_is {x : Nat} (hx : x < 8) : ∀ k, k < 8 → (nI k = nI x ↔ k = x) := fun k hk => nI_eq (by omega) (by omega)
