/-! lay -/
abbrev inS (id : Nat) : Prop := (58 ≤ id ∧ id ≤ 64) ∨ (69 ≤ id ∧ id ≤ 71)
def chL (J : IH) (i : Nat) : IH := up2 (up2 (up2 (up2 (up2 (up2 (up2 (up2 (up2 (up2 J 58 i (J 58 (8 + i))) 59 i (J 59 (8 + i))) 60 i (J 60 (8 + i))) 61 i (J 61 (8 + i))) 62 i (J 62 (8 + i))) 63 i (J 63 (8 + i))) 64 i (J 64 (8 + i))) 69 i (J 69 (8 + i))) 70 i (J 70 (8 + i))) 71 i (J 71 (8 + i))
theorem chL_o {J : IH} {i id : Nat} (h : ¬ inS id) : chL J i id = J id := by
  unfold chL
  rw [up2_i _ _ (by omega), up2_i _ _ (by omega), up2_i _ _ (by omega), up2_i _ _ (by omega), up2_i _ _ (by omega), up2_i _ _ (by omega), up2_i _ _ (by omega), up2_i _ _ (by omega), up2_i _ _ (by omega), up2_i _ _ (by omega)]
theorem chL_s {J : IH} {i id j : Nat} (h : inS id) : chL J i id j = if j = i then J id (8 + i) else J id j := by
  rcases (by omega : id = 58 ∨ id = 59 ∨ id = 60 ∨ id = 61 ∨ id = 62 ∨ id = 63 ∨ id = 64 ∨ id = 69 ∨ id = 70 ∨ id = 71) with e | e | e | e | e | e | e | e | e | e <;> subst e <;> simp [chL, up2]
theorem m_lay83 {K : IH} : ∀ (d i n : Nat) (J : IH), i + d = 8 → d < n → (∀ id j, inS id → 8 ≤ j → J id j = K id j) → (∀ id j, inS id → j < i → J id j = K id (8 + j)) → (∀ id, ¬ inS id → J id = K id) →
    ∃ n' J', g_X9_lay_83 n (nI i) J = g_X9_lay_247 n' 0 J' ∧ n = n' + d + 1 ∧ (∀ id j, inS id → j < 8 → J' id j = K id (8 + j)) ∧ ∀ id, ¬ inS id → J' id = K id := by
  intro d
  induction d with
  | zero =>
    intro i n J hi hn h1 h2 h3
    obtain ⟨n, rfl⟩ : ∃ k, n = k + 1 := ⟨n - 1, by omega⟩
    simp only [g_X9_lay_83]
    rw [li8, if_pos (nI_le (by omega) (by omega))]
    exact ⟨n, J, rfl, by omega, fun id j a b => h2 id j a (by omega), h3⟩
  | succ d ih =>
    intro i n J hi hn h1 h2 h3
    obtain ⟨n, rfl⟩ : ∃ k, n = k + 1 := ⟨n - 1, by omega⟩
    obtain ⟨n', J', k1, k2, k3, k4⟩ := ih (i + 1) n (chL J i) (by omega) (by omega) (fun id j a b => by rw [chL_s a, if_neg (by omega)]; exact h1 id j a b) (fun id j a b => by
      rw [chL_s a]
      by_cases c : j = i
      · rw [if_pos c, c]; exact h1 id _ a (by omega)
      · rw [if_neg c]; exact h2 id j a (by omega)) (fun id a => by rw [chL_o a]; exact h3 id a)
    refine ⟨n', J', ?_, by omega, k3, k4⟩
    rw [← k1]
    have x8 : (8 : Int32) + nI i = nI (8 + i) := by rw [li8, nI_add]
    have hb : inB (nI (8 + i)) 16 = true := inB_t (by omega) (by omega)
    have hb2 : inB (nI i) 16 = true := inB_t (by omega) (by omega)
    have hc : (nI (8 + i)).toNatClampNeg = 8 + i := nI_clamp (by omega)
    have hc2 : (nI i).toNatClampNeg = i := nI_clamp (by omega)
    simp only [g_X9_lay_83, bnd_eq]
    rw [if_neg (by rw [li8]; exact nI_ge (by omega) (by omega))]
    simp only [x8, hb, hb2, hc, hc2, nI_1, ↓reduceIte, up2_i _ _ (show (59 : Nat) ≠ 58 by decide), up2_i _ _ (show (60 : Nat) ≠ 58 by decide), up2_i _ _ (show (60 : Nat) ≠ 59 by decide), up2_i _ _ (show (61 : Nat) ≠ 58 by decide), up2_i _ _ (show (61 : Nat) ≠ 59 by decide), up2_i _ _ (show (61 : Nat) ≠ 60 by decide), up2_i _ _ (show (62 : Nat) ≠ 58 by decide), up2_i _ _ (show (62 : Nat) ≠ 59 by decide), up2_i _ _ (show (62 : Nat) ≠ 60 by decide), up2_i _ _ (show (62 : Nat) ≠ 61 by decide), up2_i _ _ (show (63 : Nat) ≠ 58 by decide), up2_i _ _ (show (63 : Nat) ≠ 59 by decide), up2_i _ _ (show (63 : Nat) ≠ 60 by decide), up2_i _ _ (show (63 : Nat) ≠ 61 by decide), up2_i _ _ (show (63 : Nat) ≠ 62 by decide), up2_i _ _ (show (64 : Nat) ≠ 58 by decide), up2_i _ _ (show (64 : Nat) ≠ 59 by decide), up2_i _ _ (show (64 : Nat) ≠ 60 by decide), up2_i _ _ (show (64 : Nat) ≠ 61 by decide), up2_i _ _ (show (64 : Nat) ≠ 62 by decide), up2_i _ _ (show (64 : Nat) ≠ 63 by decide), up2_i _ _ (show (69 : Nat) ≠ 58 by decide), up2_i _ _ (show (69 : Nat) ≠ 59 by decide), up2_i _ _ (show (69 : Nat) ≠ 60 by decide), up2_i _ _ (show (69 : Nat) ≠ 61 by decide), up2_i _ _ (show (69 : Nat) ≠ 62 by decide), up2_i _ _ (show (69 : Nat) ≠ 63 by decide), up2_i _ _ (show (69 : Nat) ≠ 64 by decide), up2_i _ _ (show (70 : Nat) ≠ 58 by decide), up2_i _ _ (show (70 : Nat) ≠ 59 by decide), up2_i _ _ (show (70 : Nat) ≠ 60 by decide), up2_i _ _ (show (70 : Nat) ≠ 61 by decide), up2_i _ _ (show (70 : Nat) ≠ 62 by decide), up2_i _ _ (show (70 : Nat) ≠ 63 by decide), up2_i _ _ (show (70 : Nat) ≠ 64 by decide), up2_i _ _ (show (70 : Nat) ≠ 69 by decide), up2_i _ _ (show (71 : Nat) ≠ 58 by decide), up2_i _ _ (show (71 : Nat) ≠ 59 by decide), up2_i _ _ (show (71 : Nat) ≠ 60 by decide), up2_i _ _ (show (71 : Nat) ≠ 61 by decide), up2_i _ _ (show (71 : Nat) ≠ 62 by decide), up2_i _ _ (show (71 : Nat) ≠ 63 by decide), up2_i _ _ (show (71 : Nat) ≠ 64 by decide), up2_i _ _ (show (71 : Nat) ≠ 69 by decide), up2_i _ _ (show (71 : Nat) ≠ 70 by decide)]
    rfl
def endL (o : Option IH) : Option (Int32 × IH) :=
  match o with
  | none => none
  | some J22 => some (J22 57 0, J22)
theorem m_lay247 {K : IH} : ∀ (d k n : Nat) (J : IH), k + d = 16 → d < n → (∀ j, j < k → J 66 j = K 67 j) → (∀ id, id ≠ 66 → J id = K id) →
    ∃ n' J', g_X9_lay_247 n (nI k) J = endL (g_X9_layShelf n' J') ∧ n = n' + d + 1 ∧ (∀ j, j < 16 → J' 66 j = K 67 j) ∧ ∀ id, id ≠ 66 → J' id = K id := by
  intro d
  induction d with
  | zero =>
    intro k n J hk hn h1 h2
    obtain ⟨n, rfl⟩ : ∃ k, n = k + 1 := ⟨n - 1, by omega⟩
    simp only [g_X9_lay_247, bnd_eq]
    rw [li16, if_pos (nI_le (by omega) (by omega))]
    exact ⟨n, J, rfl, by omega, fun j b => h1 j (by omega), h2⟩
  | succ d ih =>
    intro k n J hk hn h1 h2
    obtain ⟨n, rfl⟩ : ∃ k, n = k + 1 := ⟨n - 1, by omega⟩
    obtain ⟨n', J', k1, k2, k3, k4⟩ := ih (k + 1) n (up2 J 66 k (J 67 k)) (by omega) (by omega) (fun j b => by
      by_cases c : j = k
      · rw [c, up2_s, h2 67 (by omega)]
      · rw [up2_j _ _ c]; exact h1 j (by omega)) (fun id a => by rw [up2_i _ _ a]; exact h2 id a)
    refine ⟨n', J', ?_, by omega, k3, k4⟩
    rw [← k1]
    simp only [g_X9_lay_247, bnd_eq]
    rw [li16, if_neg (nI_ge (by omega) (by omega)), inB_t (by omega : k < 16) (by omega), if_pos rfl, if_pos rfl, nI_clamp (by omega), nI_1]
theorem m_layShelf {π : Pln} (hv : PV π) : ∀ (d i n : Nat) (J : IH), i + d = 8 → d < n → PlM J 0 π → (∀ x, x < i → x < π 0 0 → J 74 (2 * x) = nI (π 6 x) ∧ J 74 (2 * x + 1) = nI (π 7 x) ∧ J 75 x = nI 0) →
    ∃ I', g_X9_layShelf_2 n (nI i) J = some I' ∧ (∀ x, x < π 0 0 → I' 74 (2 * x) = nI (π 6 x) ∧ I' 74 (2 * x + 1) = nI (π 7 x) ∧ I' 75 x = nI 0) ∧ I' 76 0 = nI 0 ∧ I' 77 0 = nI 0 ∧ I' 55 24 = nI 0 ∧ I' 55 25 = nI 0 ∧ (∀ j, j ≠ 24 → j ≠ 25 → I' 55 j = J 55 j) ∧ ∀ id, id ≠ 55 → (id < 74 ∨ 77 < id) → I' id = J id := by
  have hG := hv.2.1
  intro d
  induction d with
  | zero =>
    intro i n J hi hn hP h1
    obtain ⟨n, rfl⟩ : ∃ k, n = k + 1 := ⟨n - 1, by omega⟩
    simp only [g_X9_layShelf_2, bnd_eq]
    rw [li8, if_pos (nI_le (by omega) (by omega))]
    refine ⟨_, rfl, fun x hx => ?_, ?_, ?_, ?_, ?_, fun j a b => ?_, fun id a b => ?_⟩
    · rw [up2_i _ _ (by omega), up2_i _ _ (by omega), up2_i _ _ (by omega), up2_i _ _ (by omega), up2_i _ _ (by omega : 75 ≠ 55), up2_i _ _ (by omega : 75 ≠ 55), up2_i _ _ (by omega : 75 ≠ 77), up2_i _ _ (by omega : 75 ≠ 76)]
      exact h1 x (by omega) hx
    · rw [up2_i _ _ (by omega), up2_i _ _ (by omega), up2_i _ _ (by omega), up2_s, nI_0]
    · rw [up2_i _ _ (by omega), up2_i _ _ (by omega), up2_s, nI_0]
    · rw [up2_j _ _ (by omega), up2_s, nI_0]
    · rw [up2_s, nI_0]
    · rw [up2_j _ _ b, up2_j _ _ a, up2_i _ _ (by omega), up2_i _ _ (by omega)]
    · rw [up2_i _ _ a, up2_i _ _ a, up2_i _ _ (by omega), up2_i _ _ (by omega)]
  | succ d ih =>
    intro i n J hi hn hP h1
    obtain ⟨n, rfl⟩ : ∃ k, n = k + 1 := ⟨n - 1, by omega⟩
    have m2 : (2 : Int32) * nI i = nI (2 * i) := by rw [li2, pk_mul]
    have key : ∀ t0 t1 : Int32, (i < π 0 0 → t0 = nI (π 6 i) ∧ t1 = nI (π 7 i)) → ∃ I', g_X9_layShelf_65 n (g_X9_layShelf_2 n) (nI i) t1 (nI (2 * i + 1)) (up2 J 74 (2 * i) t0) = some I' ∧ (∀ x, x < π 0 0 → I' 74 (2 * x) = nI (π 6 x) ∧ I' 74 (2 * x + 1) = nI (π 7 x) ∧ I' 75 x = nI 0) ∧ I' 76 0 = nI 0 ∧ I' 77 0 = nI 0 ∧ I' 55 24 = nI 0 ∧ I' 55 25 = nI 0 ∧ (∀ j, j ≠ 24 → j ≠ 25 → I' 55 j = J 55 j) ∧ ∀ id, id ≠ 55 → (id < 74 ∨ 77 < id) → I' id = J id := by
      intro t0 t1 ht
      have o : ∀ id, id ≠ 74 → id ≠ 75 → up2 (up2 (up2 J 74 (2 * i) t0) 74 (2 * i + 1) t1) 75 i 0 id = J id := fun id a b => by rw [up2_i _ _ b, up2_i _ _ a, up2_i _ _ a]
      obtain ⟨I', k1, k2, k3, k4, k5, k6, k7, k8⟩ := ih (i + 1) n (up2 (up2 (up2 J 74 (2 * i) t0) 74 (2 * i + 1) t1) 75 i 0) (by omega) (by omega) (PlM_congr (by omega) (fun j _ _ => o j (by omega) (by omega)) hP) (fun x a b => by
        rw [up2_i _ _ (by omega)]
        by_cases c : x = i
        · obtain ⟨t2, t3⟩ := ht (by omega)
          rw [c, up2_j _ _ (by omega), up2_s, up2_s, up2_s, t2, t3, nI_0]
          exact ⟨rfl, rfl, rfl⟩
        · rw [up2_j _ _ (by omega), up2_j _ _ (by omega), up2_j _ _ (by omega), up2_j _ _ (by omega), up2_j _ _ c, up2_i _ _ (by omega), up2_i _ _ (by omega)]
          exact h1 x (by omega) b)
      refine ⟨I', ?_, k2, k3, k4, k5, k6, fun j a b => by rw [k7 j a b, o _ (by omega) (by omega)], fun id a b => by rw [k8 id a b, o _ (by omega) (by omega)]⟩
      simp only [g_X9_layShelf_65, bnd_eq]
      rw [inB_t (by omega : 2 * i + 1 < 64) (by omega), if_pos rfl, inB_t (by omega : i < 32) (by omega), if_pos rfl, nI_clamp (by omega), nI_clamp (by omega), nI_1]
      exact k1
    have hb1 : inB (nI (2 * i)) 64 = true := inB_t (by omega) (by omega)
    have hb2 : inB (nI i) 16 = true := inB_t (by omega) (by omega)
    have hc1 : (nI (2 * i)).toNatClampNeg = 2 * i := nI_clamp (by omega)
    have hc2 : (nI i).toNatClampNeg = i := nI_clamp (by omega)
    have p1 := hP.1
    have n8 : ¬ (8 : Int32) ≤ nI i := by rw [li8]; exact nI_ge (by omega) (by omega)
    simp only [g_X9_layShelf_2, g_X9_layShelf_35, bnd_eq, if_neg n8, m2, nI_1, hb1, hb2, hc1, hc2, ↓reduceIte, up2_i J _ (show (57 : Nat) ≠ 74 by decide), up2_i J _ (show (63 : Nat) ≠ 74 by decide), p1]
    by_cases c : i < π 0 0
    · have e := hP.2.1 i c
      simp only [Nat.mul_zero, Nat.zero_add] at e
      have e6 := e.2.2.2.2.2.1
      have e7 := e.2.2.2.2.2.2
      have nc := nI_ge c (by omega : π 0 0 < 2 ^ 31)
      simp only [if_neg nc, e6, e7]
      exact key (nI (π 6 i)) (nI (π 7 i)) (fun _ => ⟨rfl, rfl⟩)
    · have pc := nI_le (Nat.not_lt.mp c) (by omega : i < 2 ^ 31)
      simp only [if_pos pc]
      exact key 0 0 (fun q => absurd q c)
/-- the sand as told -/
def tld (π : Pln) : Nat → Nat := fun b => if b % 2 = 0 then π 6 (b / 2) else π 7 (b / 2)
theorem tld_e {π : Pln} {x : Nat} : tld π (2 * x) = π 6 x := by
  unfold tld
  rw [if_pos (by omega), show 2 * x / 2 = x by omega]
theorem tld_o {π : Pln} {x : Nat} : tld π (2 * x + 1) = π 7 x := by
  unfold tld
  rw [if_neg (by omega), show (2 * x + 1) / 2 = x by omega]
theorem tld_b {f : Nat → Int32} {π : Pln} {G b : Nat} (h : ∀ x, x < G → f (2 * x) = nI (π 6 x) ∧ f (2 * x + 1) = nI (π 7 x)) (hb : b < 2 * G) : f b = nI (tld π b) := by
  rcases (by omega : b = 2 * (b / 2) ∨ b = 2 * (b / 2) + 1) with e | e
  · obtain ⟨x, hx⟩ : ∃ x, x = b / 2 := ⟨_, rfl⟩
    rw [← hx] at e
    subst e
    rw [tld_e]
    exact (h x (by omega)).1
  · obtain ⟨x, hx⟩ : ∃ x, x = b / 2 := ⟨_, rfl⟩
    rw [← hx] at e
    subst e
    rw [tld_o]
    exact (h x (by omega)).2
theorem tld_tot {π : Pln} (hv : PV π) : ∀ g, g ≤ π 0 0 → tot (tld π) g ≤ 1998 * g := by
  intro g
  induction g with
  | zero => intro _; exact Nat.le_refl _
  | succ g ih =>
    intro hg
    have h1 := ih (by omega)
    obtain ⟨-, -, -, -, -, -, h6, h7⟩ := hv.2.2.1 g (by omega)
    show tot (tld π) g + (tld π (2 * g) + tld π (2 * g + 1)) ≤ _
    rw [tld_e, tld_o]
    omega
theorem bU_0 (i : Nat) : bU 0 i = 0 := by
  unfold bU
  rw [Nat.zero_div]
/-- what the reference does when the text is laid -/
theorem m_lay {π : Pln} (hv : PV π) {n : Nat} (hn : 100 ≤ n) {K : IH} (hP : PlM K 1 π) :
    ∃ I', g_X9_lay_83 n 0 (up2 (up2 (up2 (up2 (up2 K 57 0 (K 57 1)) 65 0 (K 65 1)) 68 0 (K 68 1)) 72 0 (K 72 1)) 73 0 (K 73 1)) = some (nI (π 0 0), I') ∧ PlM I' 0 π ∧ ShM I' 0 (π 0 0) (tld π) 0 0 ∧ I' 77 0 = nI 0 ∧ I' 55 24 = nI 0 ∧ I' 55 25 = nI 0 ∧ (∀ j, j ≠ 24 → j ≠ 25 → I' 55 j = K 55 j) ∧ ∀ id, id < 57 → id ≠ 55 → I' id = K id := by
  have hG := hv.2.1
  have hT8 := hv.2.2.2.1
  have hC8 := hv.2.2.2.2.2.1
  obtain ⟨p1, p2, p3, p4, p5, p6, p7, p8⟩ := hP
  have oS : ∀ id, id ≠ 57 → id ≠ 65 → id ≠ 68 → id ≠ 72 → id ≠ 73 → up2 (up2 (up2 (up2 (up2 K 57 0 (K 57 1)) 65 0 (K 65 1)) 68 0 (K 68 1)) 72 0 (K 72 1)) 73 0 (K 73 1) id = K id := fun id a b c d e => by rw [up2_i _ _ e, up2_i _ _ d, up2_i _ _ c, up2_i _ _ b, up2_i _ _ a]
  obtain ⟨n1, J1, a1, a2, a3, a4⟩ := m_lay83 (K := up2 (up2 (up2 (up2 (up2 K 57 0 (K 57 1)) 65 0 (K 65 1)) 68 0 (K 68 1)) 72 0 (K 72 1)) 73 0 (K 73 1)) 8 0 n _ (by omega) (by omega) (fun _ _ _ _ => rfl) (fun _ j _ h => absurd h (Nat.not_lt_zero _)) (fun _ _ => rfl)
  obtain ⟨n2, J2, b1, b2, b3, b4⟩ := m_lay247 (K := J1) 16 0 n1 J1 (by omega) (by omega) (fun j h => absurd h (Nat.not_lt_zero _)) (fun _ _ => rfl)
  have eS : ∀ id j, inS id → j < 8 → J2 id j = K id (8 + j) := fun id j a b => by rw [b4 id (by omega), a3 id j a b, oS id (by omega) (by omega) (by omega) (by omega) (by omega)]
  have eO : ∀ id, id ≠ 66 → ¬ inS id → J2 id = up2 (up2 (up2 (up2 (up2 K 57 0 (K 57 1)) 65 0 (K 65 1)) 68 0 (K 68 1)) 72 0 (K 72 1)) 73 0 (K 73 1) id := fun id a b => by rw [b4 id a, a4 id b]
  have hP2 : PlM J2 0 π := by
    refine ⟨?_, fun i hi => ?_, ?_, fun k hk => ?_, ?_, fun k hk => ?_, ?_, ?_⟩
    · rw [eO 57 (by omega) (by omega), up2_i _ _ (by omega), up2_i _ _ (by omega), up2_i _ _ (by omega), up2_i _ _ (by omega), up2_s]
      exact p1
    · rw [Nat.mul_zero, Nat.zero_add, eS 58 i (by omega) (by omega), eS 61 i (by omega) (by omega), eS 64 i (by omega) (by omega), eS 59 i (by omega) (by omega), eS 60 i (by omega) (by omega), eS 62 i (by omega) (by omega), eS 63 i (by omega) (by omega)]
      exact p2 i hi
    · rw [eO 65 (by omega) (by omega), up2_i _ _ (by omega), up2_i _ _ (by omega), up2_i _ _ (by omega), up2_s]
      exact p3
    · rw [show 66 + 0 = 66 from rfl, b3 _ (by omega), b3 _ (by omega), a4 67 (by omega), oS 67 (by omega) (by omega) (by omega) (by omega) (by omega)]
      exact p4 k hk
    · rw [eO 68 (by omega) (by omega), up2_i _ _ (by omega), up2_i _ _ (by omega), up2_s]
      exact p5
    · rw [Nat.mul_zero, Nat.zero_add, eS 69 k (by omega) (by omega), eS 70 k (by omega) (by omega), eS 71 k (by omega) (by omega)]
      exact p6 k hk
    · rw [eO 72 (by omega) (by omega), up2_i _ _ (by omega), up2_s]
      exact p7
    · rw [eO 73 (by omega) (by omega), up2_s]
      exact p8
  obtain ⟨I', c1, c2, c3, c4, c5, c6, c7, c8⟩ := m_layShelf hv 8 0 n2 J2 (by omega) (by omega) hP2 (fun x h _ => absurd h (Nat.not_lt_zero _))
  have hP3 : PlM I' 0 π := PlM_congr (by omega) (fun j _ _ => c8 j (by omega) (by omega)) hP2
  refine ⟨I', ?_, hP3, ⟨c3, fun i hi => ?_, fun b hb => ?_⟩, c4, c5, c6, fun j a b => ?_, fun id a b => ?_⟩
  · rw [show g_X9_lay_83 n 0 _ = _ from a1, show g_X9_lay_247 n1 0 J1 = _ from b1]
    simp only [g_X9_layShelf]
    rw [show g_X9_layShelf_2 n2 0 J2 = _ from c1]
    show some (I' 57 0, I') = _
    rw [hP3.1]
  · rw [Nat.mul_zero, Nat.zero_add, bU_0]
    exact (c2 i hi).2.2
  · rw [Nat.mul_zero, Nat.zero_add]
    exact tld_b (f := I' 74) (fun x hx => ⟨(c2 x hx).1, (c2 x hx).2.1⟩) hb
  · rw [c7 j a b, eO 55 (by omega) (by omega), oS 55 (by omega) (by omega) (by omega) (by omega) (by omega)]
  · rw [c8 id b (by omega), eO id (by omega) (by omega), oS id (by omega) (by omega) (by omega) (by omega) (by omega)]
theorem rrI_n {T : Nat → Nat} {len : Nat} (hT : TXT T len) {o : Option Nat} (h : ∀ x, o = some x → x < len) : rrI o = -4 ↔ o = none := by
  have h4 := hT.1
  cases o with
  | none => exact ⟨fun _ => rfl, fun _ => rfl⟩
  | some x =>
    have := h x rfl
    refine ⟨fun e => ?_, fun e => (by cases e)⟩
    exfalso
    have h3 := nI_pos' (n := x) (by omega)
    rw [show nI x = (-4 : Int32) from e] at h3
    exact absurd h3 (by decide)
theorem o_lay : op_lay Inv := by
  intro p I h
  have h0 := h
  obtain ⟨N, hN⟩ : ∃ N : Nat, 500 ≤ N := ⟨500, Nat.le_refl _⟩
  obtain ⟨hp, tx, hl, -⟩ := h
  obtain ⟨T, len, hT, hC, hM⟩ := tx_ex tx
  have h400 := hT.1
  obtain ⟨J, a1, a2, a3⟩ := c_read (q := 23 - p) (n := N) hT (by omega) (by omega) hC
  obtain ⟨r1, r2⟩ := rdA_p hT 400 0 (fun _ _ => 0) PVd_0
  have hr := rrI_n hT r2
  obtain ⟨q, hq⟩ : ∃ q, q = 23 - p := ⟨_, rfl⟩
  have hq2 : q = 5 ∨ q = 18 := by omega
  have hqp : 23 - q = p := by omega
  rw [← hq] at a1 a2 a3
  obtain ⟨π, hπ⟩ : ∃ π, π = (rdA T len 400 0 (fun _ _ => 0)).2 := ⟨_, rfl⟩
  rw [← hπ] at a2 r1
  -- nothing is laid
  have no : ∀ (hh : g_X8_lay N p I = some (-2, J, p)), (∀ K, g_X9_readAll N J = some (rrI (rdA T len 400 0 (fun _ _ => 0)).1, K) → ((rdA T len 400 0 (fun _ _ => 0)).1 = none → PlM K 1 π) → g_X9_lay N J = some (-2, K)) → ∃ (n1 n2 : Nat) (r : Int32) (I1 I2 : IH) (p' : Nat), g_X8_lay n1 p I = some (r, I1, p') ∧ g_X9_lay n2 I1 = some (r, I2) ∧ Inv p' I2 := by
    intro hh hk
    obtain ⟨K, b1, b2, b3⟩ := m_read (n := N) (I := J) hT (by omega) ⟨by rw [a3 _ (by omega) (by omega) (by omega)]; exact hM.1, fun j hj => by rw [a3 _ (by omega) (by omega) (by omega)]; exact hM.2 j hj⟩
    rw [← hπ] at b2
    exact ⟨N, N, -2, J, K, p, hh, hk K b1 b2, Inv_rd h0 (by rw [← hq]; exact a3) b3⟩
  by_cases c1 : (rdA T len 400 0 (fun _ _ => 0)).1 = none
  case neg =>
    refine no ?_ (fun K k1 _ => ?_)
    · simp only [g_X8_lay, bnd_eq]
      rw [← hq, a1]
      dsimp only
      rw [if_neg (fun e => c1 (hr.mp e))]
    · simp only [g_X9_lay, bnd_eq]
      rw [k1]
      dsimp only
      rw [if_neg (fun e => c1 (hr.mp e))]
  have pc := a2 c1
  by_cases c2 : π 0 0 = 0
  case pos =>
    refine no ?_ (fun K k1 k2 => ?_)
    · simp only [g_X8_lay, bnd_eq]
      rw [← hq, a1]
      dsimp only
      rw [if_pos (hr.mpr c1), pc.1, c2, if_pos nI_0]
    · simp only [g_X9_lay, bnd_eq]
      rw [k1]
      dsimp only
      rw [if_pos (hr.mpr c1), (k2 c1).1, c2, if_pos nI_0]
  have hv : PV π := PVd_PV r1 (by omega)
  have hG := hv.2.1
  obtain ⟨J1, d1, d2, d3, d4⟩ := c_bind (n := N) hq2 (by omega) hv pc
  obtain ⟨J4, hJ4⟩ : ∃ J4, J4 = up2 (up2 (up2 (up2 (up2 (cpyH J1 (q + 5) 32 0 0 16) 31 1 0) 31 2 0) 35 0 0) 40 0 0) 0 12 0 := ⟨_, rfl⟩
  have o4 : ∀ id, id ≠ 0 → id ≠ 31 → id ≠ 32 → id ≠ 35 → id ≠ 40 → J4 id = J1 id := fun id i0 i1 i2 i3 i4 => by
    rw [hJ4, up2_i _ _ i0, up2_i _ _ i4, up2_i _ _ i3, up2_i _ _ i1, up2_i _ _ i1]
    exact if_neg i2
  have pc4 : PlC J4 q π := PlC_congr (fun j hj => o4 _ (by omega) (by omega) (by omega) (by omega) (by omega)) d2
  have fr4 : ∀ id, id ≠ 3 → id ≠ 4 → (id < q ∨ q + 12 < id) → id ≠ 0 → id ≠ 31 → id ≠ 32 → id ≠ 35 → id ≠ 40 → J4 id = I id := fun id i1 i2 i3 j0 j1 j2 j3 j4 => by
    rw [o4 id j0 j1 j2 j3 j4, d4 id (by omega), a3 id i1 i2 i3]
  have hM4 : TxM J4 T len := ⟨by rw [fr4 _ (by omega) (by omega) (by omega) (by omega) (by omega) (by omega) (by omega) (by omega)]; exact hM.1, fun j hj => by rw [fr4 _ (by omega) (by omega) (by omega) (by omega) (by omega) (by omega) (by omega) (by omega)]; exact hM.2 j hj⟩
  obtain ⟨K, b1, b2, b3⟩ := m_read (n := N) (I := J4) hT (by omega) hM4
  rw [← hπ] at b2
  obtain ⟨I', e1, e2, e3, e4, e5, e6, e7, e8⟩ := m_lay hv (n := N) (by omega) (b2 c1)
  have s : ∀ id, id < 55 → I' id = J4 id := fun id hid => by rw [e8 id (by omega) (by omega), b3.2.2.2 id (by omega) (by omega) (by omega) (by omega)]
  have s31 : J4 31 = fun j => if j = 2 then 0 else if j = 1 then 0 else J1 31 j := by
    rw [hJ4]
    funext j
    rw [up2_i _ _ (by omega), up2_i _ _ (by omega), up2_i _ _ (by omega)]
    by_cases w2 : j = 2
    · rw [w2, up2_s, if_pos rfl]
    · rw [up2_j _ _ w2, if_neg w2]
      by_cases w1 : j = 1
      · rw [w1, up2_s, if_pos rfl]
      · rw [up2_j _ _ w1, if_neg w1]
        exact congrFun (if_neg (by omega)) j
  have s32 : ∀ b, b < 16 → J4 32 b = J1 (q + 5) b := fun b hb => by
    rw [hJ4, up2_i _ _ (by omega), up2_i _ _ (by omega), up2_i _ _ (by omega), up2_i _ _ (by omega), up2_i _ _ (by omega), show cpyH J1 (q + 5) 32 0 0 16 32 = va_cpy (J1 (q + 5)) (J1 32) 0 0 16 from if_pos rfl, pk_cpy_in (by omega) (by omega), show 0 + (b - 0) = b by omega]
  have htot := tld_tot hv (π 0 0) (Nat.le_refl _)
  refine ⟨N, N, nI (π 0 0), J4, I', q, ?_, ?_, hq2, ?_, ?_, π, hv, PlC_congr (fun j hj => s _ (by omega)) pc4, fun x hx => ?_, e2, ⟨tld π, 0, 0, ⟨by omega, by omega, by omega, ⟨?_, ?_, fun b hb => ?_⟩, e3⟩, 0, fun _ => (0, 0, 0), by omega, ?_, e6, fun k hk => absurd hk (Nat.not_lt_zero _), trivial⟩, 0, fun _ _ => 0, ⟨by omega, ?_, e4, fun k hk => absurd hk (Nat.not_lt_zero _)⟩, 0, fun _ => 0, by omega, ?_, e5, fun k hk => absurd hk (Nat.not_lt_zero _)⟩
  · simp only [g_X8_lay, g_X5_fill, bnd_eq]
    rw [← hq, a1]
    dsimp only
    rw [if_pos (hr.mpr c1), pc.1, if_neg (nI_ne0 (by omega) (by omega)), d1]
    dsimp only
    rw [← hJ4, pc4.1]
  · simp only [g_X9_lay, bnd_eq]
    rw [b1]
    dsimp only
    rw [if_pos (hr.mpr c1), if_neg (by rw [(b2 c1).1]; exact nI_ne0 (by omega) (by omega))]
    rw [up2_i K _ (by omega : 65 ≠ 57), up2_i _ _ (by omega : 68 ≠ 65), up2_i K _ (by omega : 68 ≠ 57), up2_i _ _ (by omega : 72 ≠ 68), up2_i _ _ (by omega : 72 ≠ 65), up2_i K _ (by omega : 72 ≠ 57), up2_i _ _ (by omega : 73 ≠ 72), up2_i _ _ (by omega : 73 ≠ 68), up2_i _ _ (by omega : 73 ≠ 65), up2_i K _ (by omega : 73 ≠ 57)]
    exact e1
  · refine ⟨len, h400, ?_, ?_, fun j hj => ⟨T j, hT.2.1 j, ?_, ?_⟩⟩
    · rw [s _ (by omega), fr4 _ (by omega) (by omega) (by omega) (by omega) (by omega) (by omega) (by omega) (by omega)]; exact hC.1
    · rw [e7 _ (by omega) (by omega), b3.1 _ (by omega)]; exact hM4.1
    · rw [s _ (by omega), fr4 _ (by omega) (by omega) (by omega) (by omega) (by omega) (by omega) (by omega) (by omega)]; exact hC.2 j hj
    · rw [e8 _ (by omega) (by omega), b3.2.2.2 _ (by omega) (by omega) (by omega) (by omega)]; exact hM4.2 j hj
  · rw [e7 _ (by omega) (by omega), b3.1 _ (by omega), fr4 _ (by omega) (by omega) (by omega) (by omega) (by omega) (by omega) (by omega) (by omega)]; exact hl
  · rw [s _ (by omega), o4 _ (by omega) (by omega) (by omega) (by omega) (by omega)]; exact d3 x hx
  · rw [s _ (by omega), s31]; rfl
  · rw [s _ (by omega), s31]; rfl
  · rw [s _ (by omega), s32 b (by omega)]
    exact tld_b (f := J1 (q + 5)) (fun x hx => ⟨(d2.2.1 x hx).2.2.2.2.2.1, (d2.2.1 x hx).2.2.2.2.2.2.1⟩) hb
  · rw [s _ (by omega), hJ4, up2_i _ _ (by omega), up2_i _ _ (by omega), up2_s, nI_0]
  · rw [s _ (by omega), hJ4, up2_i _ _ (by omega), up2_s, nI_0]
  · rw [s _ (by omega), hJ4, up2_s, nI_0]
