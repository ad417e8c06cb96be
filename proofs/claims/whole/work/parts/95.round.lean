/-! round -/
def dv (G c : Nat) : Nat → Nat
  | 0 => c
  | e + 1 => dv G c e / G
/-- place k of row c -/
def fg (G l c k : Nat) : Nat := dv G c (l - 1 - k) % G
theorem dg {G x : Nat} (h1 : 1 ≤ G) (h8 : G ≤ 8) : (x % G + 1 < G → (x + 1) / G = x / G ∧ (x + 1) % G = x % G + 1) ∧ (¬ x % G + 1 < G → (x + 1) / G = x / G + 1 ∧ (x + 1) % G = 0) := by
  rcases (by omega : G = 1 ∨ G = 2 ∨ G = 3 ∨ G = 4 ∨ G = 5 ∨ G = 6 ∨ G = 7 ∨ G = 8) with e | e | e | e | e | e | e | e <;> subst e <;> omega
theorem dv_le {G c : Nat} : ∀ e, dv G c e ≤ c := by
  intro e
  induction e with
  | zero => exact Nat.le_refl _
  | succ e ih => exact Nat.le_trans (Nat.div_le_self _ _) ih
theorem dv_up {G c e : Nat} (h : dv G (c + 1) e = dv G c e) : ∀ d, dv G (c + 1) (e + d) = dv G c (e + d) := by
  intro d
  induction d with
  | zero => exact h
  | succ d ih => show dv G (c + 1) (e + d) / G = dv G c (e + d) / G; rw [ih]
theorem fg_lt {G l c k : Nat} (h1 : 1 ≤ G) : fg G l c k < G := Nat.mod_lt _ h1
theorem c_step_loop {G l c : Nat} (h1 : 1 ≤ G) (h8 : G ≤ 8) (hl : l ≤ 3) : ∀ (k n : Nat) (J : IH), k ≤ l → k < n → (∀ j, j < k → J 45 j = nI (fg G l c j)) → (∀ j, k ≤ j → j < l → J 45 j = nI (fg G l (c + 1) j)) → dv G (c + 1) (l - k) = dv G c (l - k) + 1 →
    ∃ I', g_X4_stepRow_8 n (nI G) (nI k - 1) J = some I' ∧ (∀ j, j < l → I' 45 j = nI (fg G l (c + 1) j)) ∧ ∀ id, id ≠ 45 → I' id = J id := by
  intro k
  induction k with
  | zero =>
    intro n J hk hn ha hb hd
    obtain ⟨n, rfl⟩ : ∃ k, n = k + 1 := ⟨n - 1, by omega⟩
    simp only [g_X4_stepRow_8]
    rw [if_pos (by decide)]
    exact ⟨J, rfl, fun j hj => hb j (Nat.zero_le _) hj, fun _ _ => rfl⟩
  | succ k ih =>
    intro n J hk hn ha hb hd
    obtain ⟨n, rfl⟩ : ∃ k, n = k + 1 := ⟨n - 1, by omega⟩
    have e0 := ha k (by omega)
    have ee : l - (k + 1) = l - 1 - k := by omega
    rw [ee] at hd
    have hlt : fg G l c k < G := fg_lt h1
    obtain ⟨d1, d2⟩ := dg (x := dv G c (l - 1 - k)) h1 h8
    rw [← hd] at d1 d2
    simp only [g_X4_stepRow_8, bnd_eq]
    rw [nI_pred, if_neg (nI_pos (by omega)), inB_t (by omega : k < 3) (by omega), if_pos rfl, if_pos rfl, if_pos rfl, if_pos rfl, nI_clamp (by omega), e0, nI_1, up2_s]
    by_cases q : dv G c (l - 1 - k) % G + 1 < G
    · obtain ⟨q1, q2⟩ := d1 q
      rw [if_neg (nI_ge (by unfold fg; exact q) (by omega))]
      refine ⟨_, rfl, fun j hj => ?_, fun id hid => up2_i _ _ hid⟩
      by_cases c1 : j = k
      · subst c1
        rw [up2_s]
        unfold fg
        rw [q2]
      · rw [up2_j _ _ c1]
        by_cases c2 : j < k
        · rw [ha j (by omega)]
          unfold fg
          have := dv_up (G := G) (c := c) (e := l - 1 - k + 1) q1 (k - 1 - j)
          rw [show l - 1 - k + 1 + (k - 1 - j) = l - 1 - j by omega] at this
          rw [this]
        · exact hb j (by omega) hj
    · obtain ⟨q1, q2⟩ := d2 q
      rw [if_pos (nI_le (by unfold fg; omega) (by omega))]
      obtain ⟨I', k1, k2, k3⟩ := ih n (up2 (up2 J 45 k (nI (fg G l c k + 1))) 45 k 0) (by omega) (by omega) (fun j hj => by rw [up2_j _ _ (by omega), up2_j _ _ (by omega)]; exact ha j (by omega)) (fun j hj1 hj2 => by
        by_cases c1 : j = k
        · subst c1
          rw [up2_s]
          unfold fg
          rw [q2, nI_0]
        · rw [up2_j _ _ c1, up2_j _ _ c1]
          exact hb j (by omega) hj2) (by rw [show l - k = l - 1 - k + 1 by omega]; exact q1)
      refine ⟨I', ?_, k2, fun id hid => by rw [k3 id hid, up2_i _ _ hid, up2_i _ _ hid]⟩
      rw [show nI k + (-1) = nI k - 1 from (Int32.sub_eq_add_neg (nI k) 1).symm]
      exact k1
theorem c_step {G l c n : Nat} (hn : 5 ≤ n) (h1 : 1 ≤ G) (h8 : G ≤ 8) (hl : l ≤ 3) {J : IH} (ha : ∀ j, j < l → J 45 j = nI (fg G l c j)) :
    ∃ I', g_X4_stepRow n (nI G) (nI l) J = some I' ∧ (∀ j, j < l → I' 45 j = nI (fg G l (c + 1) j)) ∧ ∀ id, id ≠ 45 → I' id = J id := by
  simp only [g_X4_stepRow, bnd_eq]
  rw [li3, if_neg (nI_nlt hl (by omega))]
  exact c_step_loop h1 h8 hl l n J (Nat.le_refl _) (by omega) ha (fun j h2 h3 => by omega) (by rw [Nat.sub_self]; rfl)
/-- the shelf t minutes on, one clerk going round -/
def rS (π : Pln) (f : Nat → Nat) (l : Nat) (sa : Nat → Nat) (U m : Nat) : Nat → (Nat → Nat) × Nat
  | 0 => (sa, U)
  | t + 1 => (fal π (m + t) ((rS π f l sa U m t).2 ^^^ cl π (f (t % l))) (rS π f l sa U m t).1 (π 0 0), (rS π f l sa U m t).2 ^^^ cl π (f (t % l)))
def rV (π : Pln) (f : Nat → Nat) (l : Nat) (sa : Nat → Nat) (U m : Nat) : Nat → Nat
  | 0 => 0
  | t + 1 => rV π f l sa U m t + stn (rS π f l sa U m t).1 ((rS π f l sa U m t).2 ^^^ cl π (f (t % l))) (π 0 0)
theorem rS_tot {π : Pln} {f : Nat → Nat} {l : Nat} {sa : Nat → Nat} {U m : Nat} : ∀ t, tot (rS π f l sa U m t).1 (π 0 0) = tot sa (π 0 0) := by
  intro t
  induction t with
  | zero => rfl
  | succ t ih =>
    show tot (fal π _ _ (rS π f l sa U m t).1 (π 0 0)) (π 0 0) = _
    rw [fal_tot, ih]
theorem cl256 {π : Pln} (hv : PV π) {i : Nat} (hi : i < π 0 0) : cl π i < 256 := Nat.lt_of_lt_of_le (cl_lt hv hi) (pow_G hv)
theorem rS_U {π : Pln} (hv : PV π) {f : Nat → Nat} {l : Nat} (hl : 1 ≤ l) (hf : ∀ k, k < l → f k < π 0 0) {sa : Nat → Nat} {U m : Nat} (hU : U < 256) : ∀ t, (rS π f l sa U m t).2 < 256 := by
  intro t
  induction t with
  | zero => exact hU
  | succ t ih => exact xor_lt ih (cl256 hv (hf _ (Nat.mod_lt _ hl)))
theorem rV_le {π : Pln} {f : Nat → Nat} {l : Nat} {sa : Nat → Nat} {U m : Nat} : ∀ t, rV π f l sa U m t ≤ t * π 0 0 := by
  intro t
  induction t with
  | zero => exact Nat.zero_le _
  | succ t ih =>
    have := stn_le (rS π f l sa U m t).1 ((rS π f l sa U m t).2 ^^^ cl π (f (t % l))) (π 0 0)
    show rV π f l sa U m t + stn _ _ _ ≤ _
    rw [Nat.succ_mul]
    omega
theorem rV_mono {π : Pln} {f : Nat → Nat} {l : Nat} {sa : Nat → Nat} {U m a : Nat} : ∀ d, rV π f l sa U m a ≤ rV π f l sa U m (a + d) := by
  intro d
  induction d with
  | zero => exact Nat.le_refl _
  | succ d ih => show _ ≤ rV π f l sa U m (a + d) + stn _ _ _; omega
theorem rV_bd {π : Pln} (hv : PV π) {f : Nat → Nat} {l : Nat} {sa : Nat → Nat} {U m t : Nat} (ht : t ≤ 200) : rV π f l sa U m t ≤ 1600 := by
  have h1 := rV_le (π := π) (f := f) (l := l) (sa := sa) (U := U) (m := m) t
  have h2 := hv.2.1
  have h3 : t * π 0 0 ≤ 200 * 8 := Nat.mul_le_mul ht h2
  omega
theorem nxt {l t : Nat} (h1 : 1 ≤ l) (h3 : l ≤ 3) : (t % l + 1 < l → (t + 1) % l = t % l + 1) ∧ (¬ t % l + 1 < l → (t + 1) % l = 0) := by
  rcases (by omega : l = 1 ∨ l = 2 ∨ l = 3) with e | e | e <;> subst e <;> omega
theorem c_stood_loop {p : Nat} (hp : p = 5 ∨ p = 18) {π : Pln} (hv : PV π) {f : Nat → Nat} {l : Nat} (hl : 1 ≤ l) (hl3 : l ≤ 3) (hf : ∀ k, k < l → f k < π 0 0) {sa : Nat → Nat} {U m N F : Nat} (hU : U < 256) (ht0 : tot sa (π 0 0) ≤ 20000) (hm : m ≤ 1000000) (hN : N ≤ 200) (hF : F < 2 ^ 31) :
    ∀ (d t n : Nat) (J : IH), t + d = N → d + 20 < n → PlC J p π → TuC J p π → ShC J 33 (π 0 0) (rS π f l sa U m t).1 (rS π f l sa U m t).2 (m + t) → J 44 2 = nI F → (∀ k, k < l → J 45 k = nI (f k)) →
    ∃ r I', g_X4_stoodBy_9 p n (nI l) (nI N) (nI (rV π f l sa U m t)) (nI (t % l)) (nI t) J = some (nI r, I') ∧ r ≤ 1600 ∧ (r = rV π f l sa U m N ∨ (F ≤ r ∧ F ≤ rV π f l sa U m N)) ∧ ∀ id, id ≠ 33 → id ≠ 34 → I' id = J id := by
  have hG := hv.2.1
  intro d
  induction d with
  | zero =>
    intro t n J hd hn hP hT hS h4 h5
    obtain ⟨n, rfl⟩ : ∃ k, n = k + 1 := ⟨n - 1, by omega⟩
    have e : t = N := by omega
    subst e
    simp only [g_X4_stoodBy_9]
    rw [if_pos (nI_le (by omega) (by omega))]
    exact ⟨_, J, rfl, rV_bd hv hN, Or.inl rfl, fun _ _ _ => rfl⟩
  | succ d ih =>
    intro t n J hd hn hP hT hS h4 h5
    obtain ⟨n, rfl⟩ : ∃ k, n = k + 1 := ⟨n - 1, by omega⟩
    have hb := rV_bd hv (f := f) (l := l) (sa := sa) (U := U) (m := m) (t := t) (by omega)
    have hmod : t % l < l := Nat.mod_lt _ hl
    have hft := hf _ hmod
    simp only [g_X4_stoodBy_9, bnd_eq]
    rw [if_neg (nI_ge (by omega) (by omega)), h4]
    by_cases hc : F ≤ rV π f l sa U m t
    · rw [if_pos (nI_le hc (by omega))]
      have := rV_mono (π := π) (f := f) (l := l) (sa := sa) (U := U) (m := m) (a := t) (N - t)
      rw [show t + (N - t) = N by omega] at this
      exact ⟨_, J, rfl, hb, Or.inr ⟨hc, by omega⟩, fun _ _ _ => rfl⟩
    · obtain ⟨J1, a1, a2, a3⟩ := c_flip (n := n) (M := cl π (f (t % l))) hS
      have hU1 : (rS π f l sa U m t).2 ^^^ cl π (f (t % l)) < 256 := xor_lt (rS_U hv hl hf hU t) (cl256 hv hft)
      have hV1 : ShV (π 0 0) (rS π f l sa U m t).1 ((rS π f l sa U m t).2 ^^^ cl π (f (t % l))) (m + t) := tV (by rw [rS_tot]; exact ht0) hU1 (by omega)
      have hP1 : PlC J1 p π := PlC_congr (fun j hj => a3 _ (by omega)) hP
      obtain ⟨J2, b1, b2, b3⟩ := c_fall (n := n) (s := 33) (by omega) hp (by omega) hv hP1 a2 hV1
      obtain ⟨r, I', k1, k2, k3, k4⟩ := ih (t + 1) n J2 (by omega) (by omega) (PlC_congr (fun j hj => b3 _ (by omega) (by omega)) hP1) (fun x hx => by rw [b3 _ (by omega) (by omega), a3 _ (by omega)]; exact hT x hx) b2 (by rw [b3 _ (by omega) (by omega), a3 _ (by omega)]; exact h4) (fun k hk => by rw [b3 _ (by omega) (by omega), a3 _ (by omega)]; exact h5 k hk)
      refine ⟨r, I', ?_, k2, k3, fun id i1 i2 => by rw [k4 id i1 i2, b3 id i1 i2, a3 id i1]⟩
      rw [if_neg (nI_ge (by omega) (by omega)), inB_t (by omega : t % l < 3) (by omega), if_pos rfl, nI_clamp (by omega), h5 _ hmod, inB_t (by omega : f (t % l) < 8) (by omega), if_pos rfl, nI_clamp (by omega), hT _ hft, a1]
      dsimp only
      have key : ∀ x : Nat, x = (t + 1) % l → g_X4_stoodBy_57 n p (g_X4_stoodBy_9 p n) (nI l) (nI N) (nI (rV π f l sa U m t)) (nI t) (nI x) J1 = some (nI r, I') := by
        intro x hx
        simp only [g_X4_stoodBy_57, bnd_eq]
        rw [c_standing (by omega) hv hP1.1 a2 hV1]
        dsimp only
        rw [b1]
        dsimp only
        rw [nI_add, nI_1, hx]
        exact k1
      rw [nI_1]
      obtain ⟨x1, x2⟩ := nxt (t := t) hl hl3
      by_cases hx : t % l + 1 < l
      · rw [if_neg (nI_ge hx (by omega))]
        exact key _ (x1 hx).symm
      · rw [if_pos (nI_le (by omega) (by omega))]
        exact key 0 (x2 hx).symm
def rFm (V : Nat → Nat) : Nat → Nat
  | 0 => 1601
  | c + 1 => if V c < rFm V c then V c else rFm V c
def rBm (V : Nat → Nat) : Nat → Nat
  | 0 => 0
  | c + 1 => if V c < rFm V c then c else rBm V c
theorem rFm_lt (V : Nat → Nat) : ∀ c, rFm V c < 2 ^ 31 := by
  intro c
  induction c with
  | zero => exact (by decide : 1601 < 2 ^ 31)
  | succ c ih => unfold rFm; split <;> omega
theorem rFm_bd {V : Nat → Nat} (h : ∀ c, V c ≤ 1600) : ∀ c, 1 ≤ c → rFm V c ≤ 1600 := by
  intro c
  induction c with
  | zero => intro h; omega
  | succ c ih =>
    intro _
    have := h c
    unfold rFm
    split
    · exact this
    · omega
theorem rBm_le (V : Nat → Nat) : ∀ c, rBm V c ≤ c := by
  intro c
  induction c with
  | zero => exact Nat.le_refl _
  | succ c ih => unfold rBm; split <;> omega
/-- how often they stand by row c -/
def rVc (π : Pln) (l : Nat) (sa : Nat → Nat) (U m N c : Nat) : Nat := rV π (fg (π 0 0) l c) l sa U m N
theorem c_search_loop {p : Nat} (hp : p = 5 ∨ p = 18) {π : Pln} (hv : PV π) {l : Nat} (hl : 1 ≤ l) (hl3 : l ≤ 3) {sa : Nat → Nat} {U m N R : Nat} (hU : U < 256) (ht0 : tot sa (π 0 0) ≤ 20000) (hm : m ≤ 1000000) (hN : N ≤ 200) (hR : R ≤ 1000) :
    ∀ (d c n : Nat) (J : IH), c + d = R → d + 250 < n → PlC J p π → TuC J p π → ShC J 31 (π 0 0) sa U m → (∀ k, k < l → J 45 k = nI (fg (π 0 0) l c k)) → J 44 2 = nI (rFm (rVc π l sa U m N) c) → (1 ≤ c → ∀ k, k < l → J 46 k = nI (fg (π 0 0) l (rBm (rVc π l sa U m N) c) k)) →
    ∃ I', g_X4_search_56 p n (nI l) (nI N) (nI R) (nI c) J = some I' ∧ I' 44 2 = nI (rFm (rVc π l sa U m N) R) ∧ (1 ≤ R → ∀ k, k < l → I' 46 k = nI (fg (π 0 0) l (rBm (rVc π l sa U m N) R) k)) ∧ ∀ id, id ≠ 33 → id ≠ 34 → id ≠ 44 → id ≠ 45 → id ≠ 46 → I' id = J id := by
  have hG := hv.2.1
  have hG1 := hv.1
  intro d
  induction d with
  | zero =>
    intro c n J hd hn hP hT hS h5 h4 h6
    obtain ⟨n, rfl⟩ : ∃ k, n = k + 1 := ⟨n - 1, by omega⟩
    have e : c = R := by omega
    subst e
    simp only [g_X4_search_56]
    rw [if_pos (nI_le (by omega) (by omega))]
    exact ⟨J, rfl, h4, h6, fun _ _ _ _ _ _ => rfl⟩
  | succ d ih =>
    intro c n J hd hn hP hT hS h5 h4 h6
    obtain ⟨n, rfl⟩ : ∃ k, n = k + 1 := ⟨n - 1, by omega⟩
    obtain ⟨J1, a1, a2, a3⟩ := c_copy (n := n) (s := 33) (o := 31) (by omega) (by omega) (by omega) hG hS
    have hP1 : PlC J1 p π := PlC_congr (fun j hj => a3 _ (by omega) (by omega)) hP
    have hFl := rFm_lt (rVc π l sa U m N) c
    obtain ⟨r, J2, b1, b2, b3, b4⟩ := c_stood_loop hp hv hl hl3 (f := fg (π 0 0) l c) (fun k _ => fg_lt hG1) hU ht0 hm hN hFl N 0 n J1 (by omega) (by omega) hP1 (fun x hx => by rw [a3 _ (by omega) (by omega)]; exact hT x hx) a2 (by rw [a3 _ (by omega) (by omega)]; exact h4) (fun k hk => by rw [a3 _ (by omega) (by omega)]; exact h5 k hk)
    have s2 : ∀ id, id ≠ 33 → id ≠ 34 → J2 id = J id := fun id i1 i2 => by rw [b4 id i1 i2, a3 id i1 i2]
    have key : ∀ J3 : IH, (∀ id, id ≠ 44 → id ≠ 46 → J3 id = J2 id) → J3 44 2 = nI (rFm (rVc π l sa U m N) (c + 1)) → (∀ k, k < l → J3 46 k = nI (fg (π 0 0) l (rBm (rVc π l sa U m N) (c + 1)) k)) →
        ∃ I', g_X4_search_109 n p (g_X4_search_56 p n) (nI l) (nI N) (nI R) (nI c) J3 = some I' ∧ I' 44 2 = nI (rFm (rVc π l sa U m N) R) ∧ (1 ≤ R → ∀ k, k < l → I' 46 k = nI (fg (π 0 0) l (rBm (rVc π l sa U m N) R) k)) ∧ ∀ id, id ≠ 33 → id ≠ 34 → id ≠ 44 → id ≠ 45 → id ≠ 46 → I' id = J id := by
      intro J3 e3 e4 e6
      obtain ⟨J4, d1, d2, d3⟩ := c_step (n := n) (l := l) (c := c) (by omega) hG1 hG hl3 (J := J3) (fun j hj => by rw [e3 _ (by omega) (by omega), s2 _ (by omega) (by omega)]; exact h5 j hj)
      have s4 : ∀ id, id ≠ 33 → id ≠ 34 → id ≠ 44 → id ≠ 45 → id ≠ 46 → J4 id = J id := fun id i1 i2 i3 i4 i5 => by rw [d3 id i4, e3 id i3 i5, s2 id i1 i2]
      obtain ⟨I', k1, k2, k3, k4⟩ := ih (c + 1) n J4 (by omega) (by omega) (PlC_congr (fun j hj => s4 _ (by omega) (by omega) (by omega) (by omega) (by omega)) hP) (fun x hx => by rw [s4 _ (by omega) (by omega) (by omega) (by omega) (by omega)]; exact hT x hx) (ShC_congr (s4 _ (by omega) (by omega) (by omega) (by omega) (by omega)) (s4 _ (by omega) (by omega) (by omega) (by omega) (by omega)) hS) d2 (by rw [d3 _ (by omega)]; exact e4) (fun _ k hk => by rw [d3 _ (by omega)]; exact e6 k hk)
      refine ⟨I', ?_, k2, k3, fun id i1 i2 i3 i4 i5 => by rw [k4 id i1 i2 i3 i4 i5, s4 id i1 i2 i3 i4 i5]⟩
      simp only [g_X4_search_109, bnd_eq]
      rw [e3 p (by omega) (by omega), s2 p (by omega) (by omega), hP.1, d1]
      dsimp only
      rw [nI_1]
      exact k1
    simp only [g_X4_search_56, g_X4_stoodBy, bnd_eq]
    rw [if_neg (nI_ge (by omega) (by omega)), a1]
    dsimp only
    rw [show g_X4_stoodBy_9 p n (nI l) (nI N) 0 0 0 J1 = some (nI r, J2) by rw [Nat.zero_mod] at b1; exact b1]
    dsimp only
    have e44 : J2 44 2 = nI (rFm (rVc π l sa U m N) c) := by rw [s2 _ (by omega) (by omega)]; exact h4
    rw [e44]
    have vb : rVc π l sa U m N c ≤ 1600 := rV_bd hv hN
    by_cases hc : rVc π l sa U m N c < rFm (rVc π l sa U m N) c
    · have er : r = rVc π l sa U m N c := by
        rcases b3 with q | q
        · exact q
        · exact absurd hc (Nat.not_lt.mpr q.2)
      rw [if_neg (nI_ge (by omega) (by omega))]
      refine key _ (fun id i1 i2 => ?_) ?_ ?_
      · rw [show cpyH (up2 J2 44 2 (nI r)) 45 46 0 0 3 id = up2 J2 44 2 (nI r) id from if_neg i2, up2_i _ _ i1]
      · rw [show cpyH (up2 J2 44 2 (nI r)) 45 46 0 0 3 44 = up2 J2 44 2 (nI r) 44 from if_neg (by omega), up2_s, er]
        unfold rFm
        rw [if_pos hc]
      · intro k hk
        rw [show cpyH (up2 J2 44 2 (nI r)) 45 46 0 0 3 46 = va_cpy (up2 J2 44 2 (nI r) 45) (up2 J2 44 2 (nI r) 46) 0 0 3 from if_pos rfl, pk_cpy_in (by omega) (by omega), show 0 + (k - 0) = k by omega, up2_i _ _ (by omega), s2 _ (by omega) (by omega), h5 k hk]
        unfold rBm
        rw [if_pos hc]
    · have hr : rFm (rVc π l sa U m N) c ≤ r := by
        rcases b3 with q | q
        · rw [q]; exact Nat.not_lt.mp hc
        · exact q.1
      rw [if_pos (nI_le hr (by omega))]
      have hc1 : 1 ≤ c := by
        by_cases q : c = 0
        · subst q
          exact absurd (show rVc π l sa U m N 0 < 1601 by omega) hc
        · omega
      refine key _ (fun _ _ _ => rfl) ?_ ?_
      · rw [e44]
        show _ = nI (if _ then _ else _)
        rw [if_neg hc]
      · intro k hk
        rw [s2 _ (by omega) (by omega), h6 hc1 k hk]
        show _ = nI (fg (π 0 0) l (if _ then _ else _) k)
        rw [if_neg hc]
def pwn (G : Nat) : Nat → Nat
  | 0 => 1
  | k + 1 => pwn G k * G
theorem pwn_bd {G k : Nat} (h1 : 1 ≤ G) (h8 : G ≤ 8) (hk : k ≤ 3) : 1 ≤ pwn G k ∧ pwn G k ≤ 512 := by
  have b : ∀ a, G * a ≤ 8 * a := fun a => Nat.mul_le_mul_right a h8
  have c1 : 1 ≤ G * G := Nat.mul_le_mul h1 h1
  have c2 : G * G ≤ 64 := Nat.mul_le_mul h8 h8
  have c3 : 1 ≤ G * G * G := Nat.mul_le_mul c1 h1
  have c4 : G * G * G ≤ 512 := Nat.mul_le_mul c2 h8
  rcases (by omega : k = 0 ∨ k = 1 ∨ k = 2 ∨ k = 3) with e | e | e | e <;> subst e
  · exact ⟨Nat.le_refl 1, (by decide : 1 ≤ 512)⟩
  · show 1 ≤ 1 * G ∧ 1 * G ≤ 512
    omega
  · show 1 ≤ 1 * G * G ∧ 1 * G * G ≤ 512
    rw [Nat.one_mul]
    omega
  · show 1 ≤ 1 * G * G * G ∧ 1 * G * G * G ≤ 512
    rw [Nat.one_mul]
    omega
theorem dv_0 (G : Nat) : ∀ e, dv G 0 e = 0 := by
  intro e
  induction e with
  | zero => rfl
  | succ e ih => show dv G 0 e / G = 0; rw [ih, Nat.zero_div]
theorem fg_0 (G l k : Nat) : fg G l 0 k = 0 := by
  unfold fg
  rw [dv_0, Nat.zero_mod]
theorem c_search_init {p : Nat} (hp : p = 5 ∨ p = 18) {π : Pln} (hv : PV π) {l : Nat} (hl : 1 ≤ l) (hl3 : l ≤ 3) {sa : Nat → Nat} {U m N : Nat} (hU : U < 256) (ht0 : tot sa (π 0 0) ≤ 20000) (hm : m ≤ 1000000) (hN : N ≤ 200) :
    ∀ (d k n : Nat) (J : IH), k + d = 3 → d + 1300 < n → PlC J p π → TuC J p π → ShC J 31 (π 0 0) sa U m → (∀ j, j < k → J 45 j = nI 0) →
    ∃ I', g_X4_search_6 p n (nI l) (nI N) (nI (pwn (π 0 0) (min k l))) (nI k) J = some I' ∧ I' 44 2 = nI (rFm (rVc π l sa U m N) (pwn (π 0 0) l)) ∧ (∀ k, k < l → I' 46 k = nI (fg (π 0 0) l (rBm (rVc π l sa U m N) (pwn (π 0 0) l)) k)) ∧ ∀ id, id ≠ 33 → id ≠ 34 → id ≠ 44 → id ≠ 45 → id ≠ 46 → I' id = J id := by
  have hG := hv.2.1
  have hG1 := hv.1
  intro d
  induction d with
  | zero =>
    intro k n J hd hn hP hT hS h5
    obtain ⟨n, rfl⟩ : ∃ k, n = k + 1 := ⟨n - 1, by omega⟩
    have e : k = 3 := by omega
    subst e
    have pb := pwn_bd hG1 hG hl3
    obtain ⟨I', k1, k2, k3, k4⟩ := c_search_loop hp hv hl hl3 hU ht0 hm hN (by omega : pwn (π 0 0) l ≤ 1000) (pwn (π 0 0) l) 0 n (up2 J 44 2 1601) (by omega) (by omega) (PlC_congr (fun j hj => up2_i _ _ (by omega)) hP) (fun x hx => by rw [up2_i _ _ (by omega)]; exact hT x hx) (ShC_congr (up2_i _ _ (by omega)) (up2_i _ _ (by omega)) hS) (fun k hk => by rw [up2_i _ _ (by omega), fg_0]; exact h5 k (by omega)) (by rw [up2_s]; rfl) (fun q => by omega)
    simp only [g_X4_search_6, bnd_eq]
    rw [li3, if_pos (nI_le (by omega) (by omega)), show min 3 l = l by omega]
    exact ⟨I', k1, k2, k3 pb.1, fun id i1 i2 i3 i4 i5 => by rw [k4 id i1 i2 i3 i4 i5, up2_i _ _ i3]⟩
  | succ d ih =>
    intro k n J hd hn hP hT hS h5
    obtain ⟨n, rfl⟩ : ∃ k, n = k + 1 := ⟨n - 1, by omega⟩
    obtain ⟨I', k1, k2, k3, k4⟩ := ih (k + 1) n (up2 J 45 k 0) (by omega) (by omega) (PlC_congr (fun j hj => up2_i _ _ (by omega)) hP) (fun x hx => by rw [up2_i _ _ (by omega)]; exact hT x hx) (ShC_congr (up2_i _ _ (by omega)) (up2_i _ _ (by omega)) hS) (fun j hj => by
      by_cases q : j = k
      · subst q; rw [up2_s]; rfl
      · rw [up2_j _ _ q]; exact h5 j (by omega))
    refine ⟨I', ?_, k2, k3, fun id i1 i2 i3 i4 i5 => by rw [k4 id i1 i2 i3 i4 i5, up2_i _ _ i4]⟩
    simp only [g_X4_search_6, g_X4_search_37, bnd_eq]
    rw [li3, if_neg (nI_ge (by omega) (by omega)), inB_t (by omega : k < 3) (by omega), if_pos rfl, nI_clamp (by omega), up2_i _ _ (by omega : p ≠ 45), hP.1, nI_1]
    by_cases q : l ≤ k
    · rw [if_pos (nI_le q (by omega)), li1, pk_mul, Nat.mul_one]
      rw [show min (k + 1) l = min k l by omega] at k1
      exact k1
    · rw [if_neg (nI_ge (by omega) (by omega)), pk_mul]
      rw [show min (k + 1) l = k + 1 by omega] at k1
      rw [show min k l = k by omega]
      exact k1
/-! the reference goes round -/
theorem m_fig_loop {G l c k : Nat} (h1 : 1 ≤ G) (h8 : G ≤ 8) (hl : l ≤ 3) (hk : k < l) (hc : c ≤ 1000) {I : IH} (h0 : I 57 0 = nI G) : ∀ (d n : Nat), k + d ≤ l - 1 → d < n → g_X9_figure_8 n (nI k) (nI (dv G c (l - 1 - (k + d)))) (nI (k + d)) I = some (nI (fg G l c k), I) := by
  intro d
  induction d with
  | zero =>
    intro n hd hn
    obtain ⟨n, rfl⟩ : ∃ k, n = k + 1 := ⟨n - 1, by omega⟩
    have := dv_le (G := G) (c := c) (l - 1 - (k + 0))
    simp only [g_X9_figure_8, bnd_eq]
    rw [if_pos (nI_le (by omega) (by omega)), h0, if_neg (nI_ne0 h1 (by omega)), pk_rem (by omega) h1 (by omega)]
    rfl
  | succ d ih =>
    intro n hd hn
    obtain ⟨n, rfl⟩ : ∃ k, n = k + 1 := ⟨n - 1, by omega⟩
    have := dv_le (G := G) (c := c) (l - 1 - (k + (d + 1)))
    have r := ih n (by omega) (by omega)
    simp only [g_X9_figure_8, bnd_eq]
    rw [if_neg (nI_ge (by omega) (by omega)), h0, if_neg (nI_ne0 h1 (by omega)), pk_div (by omega) h1 (by omega), show nI (k + (d + 1)) + (-1) = nI (k + (d + 1)) - 1 from (Int32.sub_eq_add_neg _ 1).symm, show k + (d + 1) = k + d + 1 by omega, nI_pred]
    rw [show l - 1 - (k + d) = l - 1 - (k + d + 1) + 1 by omega] at r
    exact r
theorem m_fig {G l c k n : Nat} (hn : 5 ≤ n) (h1 : 1 ≤ G) (h8 : G ≤ 8) (hl : l ≤ 3) (hk : k < l) (hc : c ≤ 1000) {I : IH} (h0 : I 57 0 = nI G) : g_X9_figure n (nI c) (nI l) (nI k) I = some (nI (fg G l c k), I) := by
  have r := m_fig_loop h1 h8 hl hk hc h0 (l - 1 - k) n (by omega) (by omega)
  rw [show k + (l - 1 - k) = l - 1 by omega, Nat.sub_self] at r
  simp only [g_X9_figure, bnd_eq]
  rw [li1, pk_sub (by omega)]
  exact r
theorem m_rof_loop {π : Pln} (hv : PV π) {l c : Nat} (hl : 1 ≤ l) (hl3 : l ≤ 3) (hc : c ≤ 1000) {sa : Nat → Nat} {U m N : Nat} (hU : U < 256) (ht0 : tot sa (π 0 0) ≤ 20000) (hm : m ≤ 1000000) (hN : N ≤ 200) :
    ∀ (d t n : Nat) (J : IH), t + d = N → d + 50 < n → PlM J 0 π → ShM J 1 (π 0 0) (rS π (fg (π 0 0) l c) l sa U m t).1 (rS π (fg (π 0 0) l c) l sa U m t).2 (m + t) →
    ∃ I', g_X9_roundOf_12 n (nI c) (nI l) (nI N) (nI (rV π (fg (π 0 0) l c) l sa U m t)) (nI t) J = some (nI (rVc π l sa U m N c), I') ∧ Bk 1 J I' := by
  have hG := hv.2.1
  have hG1 := hv.1
  intro d
  induction d with
  | zero =>
    intro t n J hd hn hP hS
    obtain ⟨n, rfl⟩ : ∃ k, n = k + 1 := ⟨n - 1, by omega⟩
    have e : t = N := by omega
    subst e
    simp only [g_X9_roundOf_12]
    rw [if_pos (nI_le (by omega) (by omega))]
    exact ⟨J, rfl, Bk_refl _ _⟩
  | succ d ih =>
    intro t n J hd hn hP hS
    obtain ⟨n, rfl⟩ : ∃ k, n = k + 1 := ⟨n - 1, by omega⟩
    have hmod : t % l < l := Nat.mod_lt _ hl
    have hft : fg (π 0 0) l c (t % l) < π 0 0 := fg_lt hG1
    obtain ⟨J1, a1, a2, a3, a4⟩ := m_turn (n := n) (k := 1) (by omega) hv hP (by omega) hft hS
    have hb1 : Bk 1 J J1 := ⟨fun j _ => by rw [a4 _ (by omega)], a3, fun j _ => by rw [a4 _ (by omega)], fun j _ => by rw [a4 _ (by omega)], fun id _ h2 _ _ _ => a4 id h2⟩
    have hU1 : (rS π (fg (π 0 0) l c) l sa U m t).2 ^^^ cl π (fg (π 0 0) l c (t % l)) < 256 := xor_lt (rS_U hv hl (fun k _ => fg_lt hG1) hU t) (cl256 hv hft)
    have hV1 : ShV (π 0 0) (rS π (fg (π 0 0) l c) l sa U m t).1 ((rS π (fg (π 0 0) l c) l sa U m t).2 ^^^ cl π (fg (π 0 0) l c (t % l))) (m + t) := tV (by rw [rS_tot]; exact ht0) hU1 (by omega)
    obtain ⟨J2, b1, b2, b3, b4, b5, b6⟩ := m_fal (n := n) (k := 1) (by omega) (by omega) hv hV1 (Bk_PlM hb1 hP) a2
    obtain ⟨I', k1, k2⟩ := ih (t + 1) n J2 (by omega) (by omega) b3 b4
    refine ⟨I', ?_, Bk_trans hb1 (Bk_trans b2 k2)⟩
    simp only [g_X9_roundOf_12, bnd_eq]
    rw [if_neg (nI_ge (by omega) (by omega)), if_neg (nI_ne0 hl (by omega)), pk_rem (by omega) hl (by omega), m_fig (by omega) hG1 hG hl3 hmod hc hP.1]
    dsimp only
    rw [show g_X9_turnOf n 1 (nI (fg (π 0 0) l c (t % l))) J = _ from a1]
    dsimp only
    rw [show g_X9_standing n 1 J1 = _ from m_standing (b := 1) (by omega) (by omega) hv (Bk_PlM hb1 hP).1 a2 hV1]
    dsimp only
    rw [show g_X9_fall n 1 J1 = some J2 from b1]
    dsimp only
    rw [nI_add, nI_1]
    exact k1
theorem m_rof {π : Pln} (hv : PV π) {l c n : Nat} (hl : 1 ≤ l) (hl3 : l ≤ 3) (hc : c ≤ 1000) {sa : Nat → Nat} {U m N : Nat} (hn : 300 ≤ n) (hU : U < 256) (ht0 : tot sa (π 0 0) ≤ 20000) (hm : m ≤ 1000000) (hN : N ≤ 200) {I : IH} (hP : PlM I 0 π) (hS : ShM I 0 (π 0 0) sa U m) :
    ∃ I', g_X9_roundOf n (nI c) (nI l) (nI N) I = some (nI (rVc π l sa U m N c), I') ∧ Bk 1 I I' := by
  obtain ⟨J1, a1, a2, a3, a4, a5, a6⟩ := m_copy (a := 0) (b := 1) (n := n) (by omega) (by omega) (by omega) (by omega) hv.2.1 hS
  have hb1 : Bk 1 I J1 := ⟨a3, a4, a5, fun j _ => by rw [a6 _ (by omega) (by omega) (by omega)], fun id h1 h2 h3 _ _ => a6 id h1 h2 h3⟩
  obtain ⟨J2, d1, d2⟩ := m_rof_loop hv hl hl3 hc hU ht0 hm hN N 0 n J1 (by omega) (by omega) (Bk_PlM hb1 hP) a2
  simp only [g_X9_roundOf]
  rw [show g_X9_copy n 0 1 I = some J1 from a1]
  exact ⟨J2, d1, Bk_trans hb1 d2⟩
theorem Bk_ShM {I J : IH} (h : Bk 1 I J) {G : Nat} (hG : G ≤ 8) {sa : Nat → Nat} {U m : Nat} (hS : ShM I 0 G sa U m) : ShM J 0 G sa U m :=
  ShM_congr hG (fun j _ _ => h.1 j (by omega)) (fun j _ _ => h.2.1 j (by omega)) (h.2.2.1 0 (by omega)) hS
theorem m_rnd_loop {π : Pln} (hv : PV π) {l : Nat} (hl : 1 ≤ l) (hl3 : l ≤ 3) {sa : Nat → Nat} {U m N R : Nat} (hU : U < 256) (ht0 : tot sa (π 0 0) ≤ 20000) (hm : m ≤ 1000000) (hN : N ≤ 200) (hR : R ≤ 1000) (hR1 : 1 ≤ R) {a2 res : Int32} (hres : (¬ 0 ≤ a2 ∧ res = nI (rFm (rVc π l sa U m N) R)) ∨ ∃ k, k < l ∧ a2 = nI k ∧ res = nI (fg (π 0 0) l (rBm (rVc π l sa U m N) R) k)) :
    ∀ (d c n : Nat) (J : IH), c + d = R → d + 350 < n → PlM J 0 π → ShM J 0 (π 0 0) sa U m →
    ∃ I', g_X9_round_80 n (nI l) (nI N) a2 (nI R) (if c = 0 then -4 else nI (rBm (rVc π l sa U m N) c)) (if c = 0 then 0 else nI (rFm (rVc π l sa U m N) c)) (nI c) J = some (res, I') ∧ Bk 1 J I' := by
  have hG := hv.2.1
  have hG1 := hv.1
  have hVb : ∀ c, rVc π l sa U m N c ≤ 1600 := fun c => rV_bd hv hN
  intro d
  induction d with
  | zero =>
    intro c n J hd hn hP hS
    obtain ⟨n, rfl⟩ : ∃ k, n = k + 1 := ⟨n - 1, by omega⟩
    have e : c = R := by omega
    subst e
    have hB := rBm_le (rVc π l sa U m N) c
    refine ⟨J, ?_, Bk_refl _ _⟩
    simp only [g_X9_round_80]
    rw [if_pos (nI_le (by omega) (by omega)), if_neg (by omega : ¬ c = 0), if_neg (by omega : ¬ c = 0)]
    rcases hres with ⟨q1, q2⟩ | ⟨k, q0, q1, q2⟩
    · rw [if_neg q1, q2]
    · subst q1
      rw [if_pos (nI_pos' (by omega)), m_fig (by omega) hG1 hG hl3 q0 (by omega) hP.1, q2]
  | succ d ih =>
    intro c n J hd hn hP hS
    obtain ⟨n, rfl⟩ : ∃ k, n = k + 1 := ⟨n - 1, by omega⟩
    obtain ⟨J1, a1, a2'⟩ := m_rof (n := n) hv hl hl3 (by omega : c ≤ 1000) (by omega) hU ht0 hm hN hP hS
    obtain ⟨I', k1, k2⟩ := ih (c + 1) n J1 (by omega) (by omega) (Bk_PlM a2' hP) (Bk_ShM a2' hG hS)
    refine ⟨I', ?_, Bk_trans a2' k2⟩
    rw [if_neg (by omega), if_neg (by omega)] at k1
    have vb := hVb c
    simp only [g_X9_round_80, g_X9_round_109, g_X9_round_117, bnd_eq]
    rw [if_neg (nI_ge (by omega) (by omega)), a1]
    dsimp only
    rw [nI_1]
    rw [show rBm (rVc π l sa U m N) (c + 1) = if rVc π l sa U m N c < rFm (rVc π l sa U m N) c then c else rBm (rVc π l sa U m N) c from rfl, show rFm (rVc π l sa U m N) (c + 1) = if rVc π l sa U m N c < rFm (rVc π l sa U m N) c then rVc π l sa U m N c else rFm (rVc π l sa U m N) c from rfl] at k1
    by_cases c0 : c = 0
    · subst c0
      have hlt : rVc π l sa U m N 0 < rFm (rVc π l sa U m N) 0 := by show _ < 1601; omega
      rw [if_pos hlt, if_pos hlt] at k1
      rw [if_pos rfl, if_pos (by decide)]
      exact k1
    · have hB := rBm_le (rVc π l sa U m N) c
      have hFb := rFm_bd hVb c (by omega)
      rw [if_neg c0, if_neg c0, if_neg (nI_pos (by omega))]
      by_cases q : rVc π l sa U m N c < rFm (rVc π l sa U m N) c
      · rw [if_pos q, if_pos q] at k1
        rw [if_neg (nI_ge q (by omega))]
        exact k1
      · rw [if_neg q, if_neg q] at k1
        rw [if_pos (nI_le (by omega) (by omega))]
        exact k1
theorem m_rnd_pw {G l : Nat} {N a2 : Int32} {J : IH} (h0 : J 57 0 = nI G) (hl3 : l ≤ 3) : ∀ (d k n : Nat), k + d = l → g_X9_round_47 (n + d + 1) (nI l) N a2 (nI (pwn G k)) (nI k) J = g_X9_round_80 n (nI l) N a2 (nI (pwn G l)) (-4) 0 0 J := by
  intro d
  induction d with
  | zero =>
    intro k n hd
    have e : k = l := by omega
    subst e
    simp only [g_X9_round_47]
    rw [if_pos (nI_le (by omega) (by omega))]
  | succ d ih =>
    intro k n hd
    have r := ih (k + 1) n (by omega)
    rw [show n + (d + 1) + 1 = (n + d + 1) + 1 by omega]
    generalize n + d + 1 = y at r ⊢
    simp only [g_X9_round_47, bnd_eq]
    rw [if_neg (nI_ge (by omega) (by omega)), h0, pk_mul, nI_1]
    exact r
theorem in_m1 {n : Nat} {a b : Int32} {I : IH} : g_X9_in n (Int32.toInt64 a) (-1) (Int32.toInt64 b) I = some (if -1 ≤ a ∧ a ≤ b then 1 else 0, I) := by rw [jm1]; exact m_in
theorem Sm_rnd {p : Nat} (hp : p = 5 ∨ p = 18) {I I' : IH} (h : ∀ id, id ≠ 33 → id ≠ 34 → id ≠ 44 → id ≠ 45 → id ≠ 46 → I' id = I id) : Sm p I I' := by
  refine ⟨fun id hid => h id (by omega) (by omega) (by omega) (by omega) (by omega), ⟨?_, ?_, ?_, ?_⟩, fun id _ _ => ?_, fun id j _ _ => ?_, fun j _ => ?_, fun j _ => ?_, fun j _ => ?_⟩ <;> rw [h _ (by omega) (by omega) (by omega) (by omega) (by omega)]
theorem o_round : op_round Inv := by
  intro p I a0 a1 a2 h
  have h0 := h
  obtain ⟨hp, tx, hl, π, hv, pc, tu, pm, ⟨sa, U, m, ⟨s1, s2, s3, s4, s5⟩, un⟩, z, ta, ti, ki⟩ := h
  have hG := hv.2.1
  have hG1 := hv.1
  by_cases hc0 : 1 ≤ a0 ∧ a0 ≤ 3
  case neg =>
    refine ⟨0, 0, -1, I, I, ?_, ?_, h0⟩
    · simp only [g_X8_round]
      rw [c_within]
      dsimp only
      rw [r01, if_neg hc0]
    · simp only [g_X9_round]
      rw [in_13]
      dsimp only
      rw [r01, if_neg hc0]
  by_cases hc1 : 1 ≤ a1 ∧ a1 ≤ 200
  case neg =>
    refine ⟨0, 0, -1, I, I, ?_, ?_, h0⟩
    · simp only [g_X8_round]
      rw [c_within]
      dsimp only
      rw [r01, if_pos hc0, c_within]
      dsimp only
      rw [r01, if_neg hc1]
    · simp only [g_X9_round]
      rw [in_13]
      dsimp only
      rw [r01, if_pos hc0, in_1200]
      dsimp only
      rw [r01, if_neg hc1]
  by_cases hc2 : -1 ≤ a2 ∧ a2 ≤ a0 - 1
  case neg =>
    refine ⟨0, 0, -1, I, I, ?_, ?_, h0⟩
    · simp only [g_X8_round]
      rw [c_within]
      dsimp only
      rw [r01, if_pos hc0, c_within]
      dsimp only
      rw [r01, if_pos hc1, c_within]
      dsimp only
      rw [r01, if_neg hc2]
    · simp only [g_X9_round]
      rw [in_13]
      dsimp only
      rw [r01, if_pos hc0, in_1200]
      dsimp only
      rw [r01, if_pos hc1, in_m1]
      dsimp only
      rw [r01, if_neg hc2]
  obtain ⟨l, hl1, hl3, rfl⟩ := rng1_of (N := 3) rfl (by omega) hc0
  obtain ⟨N, hN1, hN, rfl⟩ := rng1_of (N := 200) rfl (by omega) hc1
  have pb := pwn_bd hG1 hG hl3
  obtain ⟨J1, b1, b2, b3, b4⟩ := c_search_init hp hv hl1 hl3 s1 (by omega) s2 hN 3 0 2000 I (by omega) (by omega) pc tu s4 (fun j hj => absurd hj (Nat.not_lt_zero _))
  have hs1 : Sm p I J1 := Sm_rnd hp b4
  have h1 := Inv_Sm h0 hs1
  have pm1 : PlM J1 0 π := Sm_PlM hs1 hv pm
  have s51 : ShM J1 0 (π 0 0) sa U m := ShM_congr hG (fun j _ _ => by rw [b4 _ (by omega) (by omega) (by omega) (by omega) (by omega)]) (fun j _ _ => by rw [b4 _ (by omega) (by omega) (by omega) (by omega) (by omega)]) (by rw [b4 _ (by omega) (by omega) (by omega) (by omega) (by omega)]) s5
  have fin : ∀ res : Int32, ((¬ 0 ≤ a2 ∧ res = nI (rFm (rVc π l sa U m N) (pwn (π 0 0) l))) ∨ ∃ k, k < l ∧ a2 = nI k ∧ res = nI (fg (π 0 0) l (rBm (rVc π l sa U m N) (pwn (π 0 0) l)) k)) → ∃ (n1 n2 : Nat) (r : Int32) (I1 I2 : IH), g_X8_round n1 p (nI l) (nI N) a2 I = some (r, I1) ∧ g_X9_round n2 (nI l) (nI N) a2 I1 = some (r, I2) ∧ Inv p I2 := by
    intro res hres
    obtain ⟨J2, d1, d2⟩ := m_rnd_loop hv hl1 hl3 s1 (by omega) s2 hN (by omega) pb.1 hres (pwn (π 0 0) l) 0 2000 J1 (by omega) (by omega) pm1 s51
    rw [if_pos rfl, if_pos rfl] at d1
    refine ⟨2000, 2000 + l + 1, res, J1, J2, ?_, ?_, Inv_Sm h1 (Sm_Bk hp d2)⟩
    · simp only [g_X8_round, g_X4_search, bnd_eq]
      rw [c_within]
      dsimp only
      rw [r01, if_pos hc0, c_within]
      dsimp only
      rw [r01, if_pos hc1, c_within]
      dsimp only
      rw [r01, if_pos hc2, show g_X4_search_6 p 2000 (nI l) (nI N) 1 0 I = some J1 by rw [Nat.zero_min] at b1; exact b1]
      dsimp only
      rcases hres with ⟨q1, q2⟩ | ⟨k, q0, q1, q2⟩
      · rw [if_neg q1, b2, q2]
      · subst q1
        rw [if_pos (nI_pos' (by omega)), inB_t (by omega : k < 3) (by omega), if_pos rfl, nI_clamp (by omega), b3 k q0, q2]
    · simp only [g_X9_round]
      rw [in_13]
      dsimp only
      rw [r01, if_pos hc0, in_1200]
      dsimp only
      rw [r01, if_pos hc1, in_m1]
      dsimp only
      rw [r01, if_pos hc2]
      have e := m_rnd_pw (N := nI N) (a2 := a2) pm1.1 hl3 l 0 2000 (by omega)
      rw [show g_X9_round_47 (2000 + l + 1) (nI l) (nI N) a2 1 0 J1 = _ from e]
      exact d1
  by_cases hneg : 0 ≤ a2
  · have e : nI l - 1 = nI (l - 1) := by rw [li1, pk_sub hl1]
    rw [e] at hc2
    obtain ⟨k, hk, rfl⟩ := rng_of rfl (by omega) ⟨hneg, hc2.2⟩
    exact fin _ (Or.inr ⟨k, by omega, rfl, rfl⟩)
  · exact fin _ (Or.inl ⟨hneg, rfl⟩)
