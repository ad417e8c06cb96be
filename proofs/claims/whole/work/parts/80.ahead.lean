/-! The reference looks ahead. -/
/-- only book k, what fell and what is counted on the way have changed -/
def Bk (k : Nat) (I I' : IH) : Prop := (∀ j, j < 16 * k ∨ 16 * k + 16 ≤ j → I' 74 j = I 74 j) ∧ (∀ j, j < 8 * k ∨ 8 * k + 8 ≤ j → I' 75 j = I 75 j) ∧ (∀ j, j ≠ k → I' 76 j = I 76 j) ∧ (∀ j, j ≠ 32 → I' 55 j = I 55 j) ∧ ∀ id, id ≠ 74 → id ≠ 75 → id ≠ 76 → id ≠ 81 → id ≠ 55 → I' id = I id
theorem Bk_refl (k : Nat) (I : IH) : Bk k I I := ⟨fun _ _ => rfl, fun _ _ => rfl, fun _ _ => rfl, fun _ _ => rfl, fun _ _ _ _ _ _ => rfl⟩
theorem Bk_trans {k : Nat} {I J K : IH} (h1 : Bk k I J) (h2 : Bk k J K) : Bk k I K := by
  obtain ⟨a1, a2, a3, a4, a5⟩ := h1
  obtain ⟨b1, b2, b3, b4, b5⟩ := h2
  exact ⟨fun j h => (b1 j h).trans (a1 j h), fun j h => (b2 j h).trans (a2 j h), fun j h => (b3 j h).trans (a3 j h), fun j h => (b4 j h).trans (a4 j h), fun id x1 x2 x3 x4 x5 => (b5 id x1 x2 x3 x4 x5).trans (a5 id x1 x2 x3 x4 x5)⟩
theorem Bk_PlM {k : Nat} {I J : IH} (h : Bk k I J) {π : Pln} (hP : PlM I 0 π) : PlM J 0 π :=
  PlM_congr (by omega) (fun j h1 h2 => h.2.2.2.2 j (by omega) (by omega) (by omega) (by omega) (by omega)) hP
/-- in how many minutes one stood -/
def em (π : Pln) (lk lb : Nat) (sa : Nat → Nat) (U m : Nat) : Nat → Nat
  | 0 => 0
  | t + 1 => em π lk lb sa U m t + (if stn (goS π lk lb sa U m t).1 (clk π (m + t) lk lb (goS π lk lb sa U m t).2 (π 11 0)) (π 0 0) = 0 then 0 else 1)
/-- what fell out of each bulb -/
def fls (π : Pln) (lk lb : Nat) (sa : Nat → Nat) (U m : Nat) : Nat → Nat → Nat
  | 0, _ => 0
  | t + 1, b => fls π lk lb sa U m t b + flo π (m + t) (clk π (m + t) lk lb (goS π lk lb sa U m t).2 (π 11 0)) (goS π lk lb sa U m t).1 (π 0 0) b
/-- a minute of a book, with what is kept -/
theorem m_min {k n : Nat} (hk : k ≤ 3) (hn : 40 ≤ n) {π : Pln} (hv : PV π) {sa : Nat → Nat} {U m lk lb : Nat} (hV : ShV (π 0 0) sa U m) (hlb : lb ≤ 99) {J : IH} (hP : PlM J 0 π) (hlk : ∀ x, x < 8 → (nI x = J 55 29 ↔ x = lk)) (hl2 : ∀ x, x < 8 → x = lk → J 55 30 = nI lb) (hJ : ShM J k (π 0 0) sa U m) :
    ∃ J1, g_X9_clerks n (nI k) J = some J1 ∧ Bk k J J1 ∧ PlM J1 0 π ∧ ShM J1 k (π 0 0) sa (clk π m lk lb U (π 11 0)) m ∧ ShV (π 0 0) sa (clk π m lk lb U (π 11 0)) m ∧ (∀ b, J1 81 b = J 81 b) ∧ J1 55 = J 55 := by
  obtain ⟨J1, a1, a2, a3, a4⟩ := m_clerks (n := n) hn hk hv hV.1 hV.2.1 hlb hP hlk hl2 hJ
  refine ⟨J1, a1, ⟨fun j _ => by rw [a4 _ (by omega)], a3, fun j _ => by rw [a4 _ (by omega)], fun j _ => by rw [a4 _ (by omega)], fun id _ h2 _ _ _ => a4 id h2⟩, PlM_congr (by omega) (fun j h1 h2 => a4 _ (by omega)) hP, a2, ⟨clk_lt hv hV.1 _ (Nat.le_refl _), hV.2.1, hV.2.2⟩, fun b => by rw [a4 _ (by omega)], a4 _ (by omega)⟩
theorem m_fal {k n : Nat} (hk : k ≤ 3) (hn : 9 ≤ n) {π : Pln} (hv : PV π) {sa : Nat → Nat} {U m : Nat} (hV : ShV (π 0 0) sa U m) {J : IH} (hP : PlM J 0 π) (hJ : ShM J k (π 0 0) sa U m) :
    ∃ J1, g_X9_fall n (nI k) J = some J1 ∧ Bk k J J1 ∧ PlM J1 0 π ∧ ShM J1 k (π 0 0) (fal π m U sa (π 0 0)) U (m + 1) ∧ (∀ b, b < 16 → J1 81 b = J 81 b + nI (flo π m U sa (π 0 0) b)) ∧ J1 55 = J 55 := by
  obtain ⟨J1, a1, a2, a3, a4, a5, a6⟩ := m_fall hn hv hP hk hJ hV
  exact ⟨J1, a1, ⟨a4, fun j _ => by rw [a6 _ (by omega) (by omega) (by omega)], a5, fun j _ => by rw [a6 _ (by omega) (by omega) (by omega)], fun id h1 _ h3 h4 _ => a6 id h1 h4 h3⟩, PlM_congr (by omega) (fun j h1 h2 => a6 _ (by omega) (by omega) (by omega)) hP, a2, a3, a6 _ (by omega) (by omega) (by omega)⟩
theorem m_run_loop {π : Pln} (hv : PV π) {sa : Nat → Nat} {U m t lk lb : Nat} (hU : U < 256) (ht0 : tot sa (π 0 0) ≤ 20000) (hm : m + t ≤ 1100000) (hlb : lb ≤ 99) :
    ∀ (d k n : Nat) (J : IH), k + d = t → d + 50 < n → PlM J 0 π → (∀ x, x < 8 → (nI x = J 55 29 ↔ x = lk)) → (∀ x, x < 8 → x = lk → J 55 30 = nI lb) → ShM J 1 (π 0 0) (goS π lk lb sa U m k).1 (goS π lk lb sa U m k).2 (m + k) → J 55 32 = nI (em π lk lb sa U m k) → (∀ b, b < 16 → J 81 b = nI (fls π lk lb sa U m k b)) →
    ∃ I', g_X9_runOn_34 n (nI t) (nI k) J = some I' ∧ ShM I' 1 (π 0 0) (goS π lk lb sa U m t).1 (goS π lk lb sa U m t).2 (m + t) ∧ I' 55 32 = nI (em π lk lb sa U m t) ∧ (∀ b, b < 16 → I' 81 b = nI (fls π lk lb sa U m t b)) ∧ Bk 1 J I' := by
  intro d
  induction d with
  | zero =>
    intro k n J hk hn hP hlk hl2 hJ hE hF
    obtain ⟨n, rfl⟩ : ∃ k, n = k + 1 := ⟨n - 1, by omega⟩
    simp only [g_X9_runOn_34]
    rw [if_pos (nI_le (by omega) (by omega))]
    have e : t = k := by omega
    subst e
    exact ⟨J, rfl, hJ, hE, hF, Bk_refl _ _⟩
  | succ d ih =>
    intro k n J hk hn hP hlk hl2 hJ hE hF
    obtain ⟨n, rfl⟩ : ∃ k, n = k + 1 := ⟨n - 1, by omega⟩
    have hV := goS_V hv (lk := lk) (lb := lb) hU ht0 (t := k) (m := m) (by omega)
    obtain ⟨J1, a1, a2, a3, a4, a5, a6, a7⟩ := m_min (n := n) (k := 1) (by omega) (by omega) hv hV hlb hP hlk hl2 hJ
    have c1 := m_standing (n := n) (b := 1) (by omega) (by omega) hv a3.1 a4 a5
    have key : ∀ x : Nat, em π lk lb sa U m (k + 1) = em π lk lb sa U m k + x → ∃ I', g_X9_runOn_62 n (g_X9_runOn_34 n) (nI t) (nI k) (nI x) (J1 55 32) J1 = some I' ∧ ShM I' 1 (π 0 0) (goS π lk lb sa U m t).1 (goS π lk lb sa U m t).2 (m + t) ∧ I' 55 32 = nI (em π lk lb sa U m t) ∧ (∀ b, b < 16 → I' 81 b = nI (fls π lk lb sa U m t b)) ∧ Bk 1 J I' := by
      intro x hx
      simp only [g_X9_runOn_62, bnd_eq]
      have hb : Bk 1 J1 (up2 J1 55 32 (J1 55 32 + nI x)) := ⟨fun _ _ => by rw [up2_i _ _ (by omega)], fun _ _ => by rw [up2_i _ _ (by omega)], fun _ _ => by rw [up2_i _ _ (by omega)], fun j hj => up2_j _ _ hj, fun id _ _ _ _ h5 => up2_i _ _ h5⟩
      obtain ⟨J2, b1, b2, b3, b4, b5, b6⟩ := m_fal (n := n) (k := 1) (by omega) (by omega) hv a5 (Bk_PlM hb a3) (J := up2 J1 55 32 (J1 55 32 + nI x)) (by
        obtain ⟨q1, q2, q3⟩ := a4
        exact ⟨by rw [up2_i _ _ (by omega)]; exact q1, fun i hi => by rw [up2_i _ _ (by omega)]; exact q2 i hi, fun b hb => by rw [up2_i _ _ (by omega)]; exact q3 b hb⟩)
      rw [show g_X9_fall n 1 (up2 J1 55 32 (J1 55 32 + nI x)) = some J2 from b1]
      dsimp only
      rw [nI_1]
      obtain ⟨I', k1, k2, k3, k4, k5⟩ := ih (k + 1) n J2 (by omega) (by omega) b3 (by rw [b6, up2_j _ _ (by omega), a7]; exact hlk) (by rw [b6, up2_j _ _ (by omega), a7]; exact hl2) b4 (by rw [b6, up2_s, a7, hE, nI_add, hx]) (fun b hb => by
        rw [b5 b hb, up2_i _ _ (by omega), a6, hF b hb, nI_add]
        rfl)
      exact ⟨I', k1, k2, k3, k4, Bk_trans a2 (Bk_trans hb (Bk_trans b2 k5))⟩
    simp only [g_X9_runOn_34, bnd_eq]
    rw [if_neg (nI_ge (by omega) (by omega)), show g_X9_clerks n 1 J = some J1 from a1]
    dsimp only
    rw [show g_X9_standing n 1 J1 = _ from c1]
    dsimp only
    have hst := stn_le (goS π lk lb sa U m k).1 (clk π (m + k) lk lb (goS π lk lb sa U m k).2 (π 11 0)) (π 0 0)
    have hG8 := hv.2.1
    by_cases h0 : stn (goS π lk lb sa U m k).1 (clk π (m + k) lk lb (goS π lk lb sa U m k).2 (π 11 0)) (π 0 0) = 0
    · rw [h0, if_pos (by decide)]
      obtain ⟨I', h⟩ := key 0 (by simp only [em]; rw [if_pos h0])
      exact ⟨I', h⟩
    · rw [if_neg (by rw [li0]; exact nI_ge (by omega) (by omega))]
      obtain ⟨I', h⟩ := key 1 (by simp only [em]; rw [if_neg h0])
      exact ⟨I', h⟩
theorem m_run_zero {π : Pln} (hv : PV π) {sa : Nat → Nat} {U m t lk lb : Nat} (hU : U < 256) (ht0 : tot sa (π 0 0) ≤ 20000) (hm : m + t ≤ 1100000) (hlb : lb ≤ 99) :
    ∀ (d g n : Nat) (J : IH), g + d = 16 → d + t + 60 < n → PlM J 0 π → (∀ x, x < 8 → (nI x = J 55 29 ↔ x = lk)) → (∀ x, x < 8 → x = lk → J 55 30 = nI lb) → ShM J 1 (π 0 0) sa U m → J 55 32 = nI 0 → (∀ b, b < g → J 81 b = nI 0) →
    ∃ I', g_X9_runOn_13 n (nI t) (nI g) J = some I' ∧ ShM I' 1 (π 0 0) (goS π lk lb sa U m t).1 (goS π lk lb sa U m t).2 (m + t) ∧ I' 55 32 = nI (em π lk lb sa U m t) ∧ (∀ b, b < 16 → I' 81 b = nI (fls π lk lb sa U m t b)) ∧ Bk 1 J I' := by
  intro d
  induction d with
  | zero =>
    intro g n J hk hn hP hlk hl2 hJ hE hF
    obtain ⟨n, rfl⟩ : ∃ k, n = k + 1 := ⟨n - 1, by omega⟩
    simp only [g_X9_runOn_13]
    rw [li16, if_pos (nI_le (by omega) (by omega))]
    exact m_run_loop hv hU ht0 hm hlb t 0 n J (by omega) (by omega) hP hlk hl2 hJ hE (fun b hb => hF b (by omega))
  | succ d ih =>
    intro g n J hk hn hP hlk hl2 hJ hE hF
    obtain ⟨n, rfl⟩ : ∃ k, n = k + 1 := ⟨n - 1, by omega⟩
    simp only [g_X9_runOn_13, bnd_eq]
    rw [li16, if_neg (nI_ge (by omega) (by omega)), inB_t (by omega) (by omega), if_pos rfl, nI_clamp (by omega), nI_1]
    have hb : Bk 1 J (up2 J 81 g 0) := ⟨fun _ _ => by rw [up2_i _ _ (by omega)], fun _ _ => by rw [up2_i _ _ (by omega)], fun _ _ => by rw [up2_i _ _ (by omega)], fun j hj => by rw [up2_i _ _ (by omega)], fun id _ _ _ h4 _ => up2_i _ _ h4⟩
    obtain ⟨I', k1, k2, k3, k4, k5⟩ := ih (g + 1) n (up2 J 81 g 0) (by omega) (by omega) (Bk_PlM hb hP) (by rw [up2_i _ _ (by omega)]; exact hlk) (by rw [up2_i _ _ (by omega)]; exact hl2) (by
        obtain ⟨q1, q2, q3⟩ := hJ
        exact ⟨by rw [up2_i _ _ (by omega)]; exact q1, fun i hi => by rw [up2_i _ _ (by omega)]; exact q2 i hi, fun b hb => by rw [up2_i _ _ (by omega)]; exact q3 b hb⟩) (by rw [up2_i _ _ (by omega)]; exact hE) (fun b hb => by
        by_cases h : b = g
        · subst h; exact up2_s _ _ _ _
        · rw [up2_j _ _ h]; exact hF b (by omega))
    exact ⟨I', k1, k2, k3, k4, Bk_trans hb k5⟩
/-- runOn -/
theorem m_run {n : Nat} {π : Pln} (hv : PV π) {sa : Nat → Nat} {U m t lk lb : Nat} (hn : t + 100 ≤ n) (hU : U < 256) (ht0 : tot sa (π 0 0) ≤ 20000) (hm : m + t ≤ 1100000) (hlb : lb ≤ 99) {I : IH} (hP : PlM I 0 π) (hlk : ∀ x, x < 8 → (nI x = I 55 29 ↔ x = lk)) (hl2 : ∀ x, x < 8 → x = lk → I 55 30 = nI lb) (hS : ShM I 0 (π 0 0) sa U m) :
    ∃ I', g_X9_runOn n (nI t) I = some I' ∧ ShM I' 1 (π 0 0) (goS π lk lb sa U m t).1 (goS π lk lb sa U m t).2 (m + t) ∧ I' 55 32 = nI (em π lk lb sa U m t) ∧ (∀ b, b < 16 → I' 81 b = nI (fls π lk lb sa U m t b)) ∧ Bk 1 I I' := by
  simp only [g_X9_runOn, bnd_eq]
  obtain ⟨J1, a1, a2, a3, a4, a5, a6⟩ := m_copy (a := 0) (b := 1) (n := n) (by omega) (by omega) (by omega) (by omega) hv.2.1 hS
  have hb1 : Bk 1 I J1 := ⟨a3, a4, a5, fun j _ => by rw [a6 _ (by omega) (by omega) (by omega)], fun id h1 h2 h3 _ _ => a6 id h1 h2 h3⟩
  have hb : Bk 1 J1 (up2 J1 55 32 0) := ⟨fun _ _ => by rw [up2_i _ _ (by omega)], fun _ _ => by rw [up2_i _ _ (by omega)], fun _ _ => by rw [up2_i _ _ (by omega)], fun j hj => up2_j _ _ hj, fun id _ _ _ _ h5 => up2_i _ _ h5⟩
  rw [show g_X9_copy n 0 1 I = some J1 from a1]
  dsimp only
  have h55 : J1 55 = I 55 := a6 _ (by omega) (by omega) (by omega)
  obtain ⟨I', k1, k2, k3, k4, k5⟩ := m_run_zero hv hU ht0 hm hlb 16 0 n (up2 J1 55 32 0) (by omega) (by omega) (Bk_PlM hb (Bk_PlM hb1 hP)) (by rw [up2_j _ _ (by omega), h55]; exact hlk) (by rw [up2_j _ _ (by omega), h55]; exact hl2) (by
        obtain ⟨q1, q2, q3⟩ := a2
        exact ⟨by rw [up2_i _ _ (by omega)]; exact q1, fun i hi => by rw [up2_i _ _ (by omega)]; exact q2 i hi, fun b hb => by rw [up2_i _ _ (by omega)]; exact q3 b hb⟩) (up2_s _ _ _ _) (fun b hb => by omega)
  exact ⟨I', k1, k2, k3, k4, Bk_trans hb1 (Bk_trans hb k5)⟩
theorem m_minutes_loop {π : Pln} (hv : PV π) {sa : Nat → Nat} {U m t lk lb : Nat} (hU : U < 256) (ht0 : tot sa (π 0 0) ≤ 20000) (hm : m + t ≤ 1100000) (hlb : lb ≤ 99) :
    ∀ (d k n : Nat) (J : IH), k + d = t → d + 50 < n → PlM J 0 π → (∀ x, x < 8 → (nI x = J 55 29 ↔ x = lk)) → (∀ x, x < 8 → x = lk → J 55 30 = nI lb) → ShM J 0 (π 0 0) (goS π lk lb sa U m k).1 (goS π lk lb sa U m k).2 (m + k) →
    ∃ I', g_X9_minutes_32 n (nI t) (nI k) J = some (nI (m + t), up2 I' 55 25 0) ∧ ShM I' 0 (π 0 0) (goS π lk lb sa U m t).1 (goS π lk lb sa U m t).2 (m + t) ∧ Bk 0 J I' := by
  intro d
  induction d with
  | zero =>
    intro k n J hk hn hP hlk hl2 hJ
    obtain ⟨n, rfl⟩ : ∃ k, n = k + 1 := ⟨n - 1, by omega⟩
    simp only [g_X9_minutes_32, bnd_eq]
    rw [if_pos (nI_le (by omega) (by omega))]
    have e : t = k := by omega
    subst e
    exact ⟨J, by rw [up2_i _ _ (by omega), hJ.1], hJ, Bk_refl _ _⟩
  | succ d ih =>
    intro k n J hk hn hP hlk hl2 hJ
    obtain ⟨n, rfl⟩ : ∃ k, n = k + 1 := ⟨n - 1, by omega⟩
    have hV := goS_V hv (lk := lk) (lb := lb) hU ht0 (t := k) (m := m) (by omega)
    obtain ⟨J1, a1, a2, a3, a4, a5, a6, a7⟩ := m_min (n := n) (k := 0) (by omega) (by omega) hv hV hlb hP hlk hl2 hJ
    obtain ⟨J2, b1, b2, b3, b4, b5, b6⟩ := m_fal (n := n) (k := 0) (by omega) (by omega) hv a5 a3 a4
    simp only [g_X9_minutes_32, bnd_eq]
    rw [if_neg (nI_ge (by omega) (by omega)), show g_X9_clerks n 0 J = some J1 from a1]
    dsimp only
    rw [show g_X9_fall n 0 J1 = some J2 from b1]
    dsimp only
    rw [nI_1]
    obtain ⟨I', k1, k2, k3⟩ := ih (k + 1) n J2 (by omega) (by omega) b3 (by rw [b6, a7]; exact hlk) (by rw [b6, a7]; exact hl2) b4
    exact ⟨I', k1, k2, Bk_trans a2 (Bk_trans b2 k3)⟩
