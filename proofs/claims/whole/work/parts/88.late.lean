/-! late and gains. -/
theorem cl_of {a : Int32} {C : Nat} (h8 : C ≤ 8) (h : 0 ≤ a ∧ a ≤ nI C - 1) : ∃ x, x < C ∧ a = nI x := by
  by_cases hC : C = 0
  · subst hC
    exact absurd (Int32.le_trans h.1 h.2) (by decide)
  · exact gl_of (by omega) h8 h
abbrev dl3 (C a0 a1 a2 : Int32) : Prop := (0 ≤ a0 ∧ a0 ≤ C - 1) ∧ (0 ≤ a1 ∧ a1 ≤ 99) ∧ (0 ≤ a2 ∧ a2 ≤ 20000)
theorem c_isDelay {n p : Nat} {a0 a1 a2 : Int32} {I : IH} : g_X8_isDelay n p a0 a1 a2 I = some (if dl3 (I p 11) a0 a1 a2 then 1 else 0, I) := by
  simp only [g_X8_isDelay]
  rw [c_within]
  dsimp only
  rw [r01]
  by_cases h0 : 0 ≤ a0 ∧ a0 ≤ I p 11 - 1
  · rw [if_pos h0, c_within]
    dsimp only
    rw [r01]
    by_cases h1 : 0 ≤ a1 ∧ a1 ≤ 99
    · rw [if_pos h1, c_within]
      dsimp only
      rw [r01]
      by_cases h2 : 0 ≤ a2 ∧ a2 ≤ 20000
      · rw [if_pos h2, if_pos ⟨h0, h1, h2⟩]
      · rw [if_neg h2, if_neg (fun q => h2 q.2.2)]
    · rw [if_neg h1, if_neg (fun q => h1 q.2.1)]
  · rw [if_neg h0, if_neg (fun q => h0 q.1)]
theorem in_0x {n : Nat} {a b : Int32} {I : IH} : g_X9_in n (Int32.toInt64 a) 0 (Int32.toInt64 b) I = some (if 0 ≤ a ∧ a ≤ b then 1 else 0, I) := by rw [j0]; exact m_in
theorem m_isLate {n : Nat} {a0 a1 a2 : Int32} {I : IH} : g_X9_isLate n a0 a1 a2 I = some (if dl3 (I 68 0) a0 a1 a2 then 1 else 0, I) := by
  simp only [g_X9_isLate, bnd_eq]
  rw [in_0x]
  dsimp only
  rw [r01]
  by_cases h0 : 0 ≤ a0 ∧ a0 ≤ I 68 0 - 1
  · rw [if_pos h0, in_099]
    dsimp only
    rw [r01]
    by_cases h1 : 0 ≤ a1 ∧ a1 ≤ 99
    · rw [if_pos h1, m_isLater]
      dsimp only
      rw [r01]
      by_cases h2 : 0 ≤ a2 ∧ a2 ≤ 20000
      · rw [if_pos h2, if_pos ⟨h0, h1, h2⟩]
      · rw [if_neg h2, if_neg (fun q => h2 q.2.2)]
    · rw [if_neg h1, if_neg (fun q => h1 q.2.1)]
  · rw [if_neg h0, if_neg (fun q => h0 q.1)]
/-- more grains by the delay -/
def mor (π : Pln) (A B : Nat → Nat) (h : Nat) : Int32 := -(nI (hss π A h (π 0 0))) + nI (hss π B h (π 0 0))
theorem mor_sub (π : Pln) (A B : Nat → Nat) (h : Nat) : nI (hss π B h (π 0 0)) - nI (hss π A h (π 0 0)) = mor π A B h := by
  unfold mor
  rw [Int32.sub_eq_add_neg, Int32.add_comm]
theorem m_more_60 {p : Nat} (hp : p = 5 ∨ p = 18) {π : Pln} (hv : PV π) {I : IH} (hP : PlM I 0 π) {B : Nat → Nat} {U m : Nat} (hS : ShM I 1 (π 0 0) B U m) (hV : ShV (π 0 0) B U m) :
    ∀ (d k n : Nat) (J : IH), k + d = 6 → d + 10 < n → (∀ id, id ≠ 82 → J id = I id) → (∀ h, h < k → J 82 h = I 82 h + nI (hss π B h (π 0 0))) → (∀ h, k ≤ h → J 82 h = I 82 h) →
    ∃ I', g_X9_layMore_60 n (nI k) J = some I' ∧ (∀ h, h < 6 → I' 82 h = I 82 h + nI (hss π B h (π 0 0))) ∧ ∀ id, id ≠ 82 → I' id = I id := by
  intro d
  induction d with
  | zero =>
    intro k n J hk hn h1 h2 h3
    obtain ⟨n, rfl⟩ : ∃ k, n = k + 1 := ⟨n - 1, by omega⟩
    simp only [g_X9_layMore_60]
    rw [show (6 : Int32) = nI 6 from rfl, if_pos (nI_le (by omega) (by omega))]
    exact ⟨J, rfl, fun h hh => h2 h (by omega), h1⟩
  | succ d ih =>
    intro k n J hk hn h1 h2 h3
    obtain ⟨n, rfl⟩ : ∃ k, n = k + 1 := ⟨n - 1, by omega⟩
    have q := m_has (b := 1) (n := n) (h := k) (I := J) (by omega) (by omega) hv (PlM_congr (by omega) (fun j _ _ => h1 _ (by omega)) hP) (ShM_congr hv.2.1 (fun j _ _ => by rw [h1 _ (by omega)]) (fun j _ _ => by rw [h1 _ (by omega)]) (by rw [h1 _ (by omega)]) hS) hV (by omega)
    simp only [g_X9_layMore_60, bnd_eq]
    rw [show (6 : Int32) = nI 6 from rfl, if_neg (nI_ge (by omega) (by omega)), inB_t (by omega : k < 6) (by omega), show g_X9_hasOf n 1 (nI k) J = _ from q]
    simp only [if_pos]
    rw [nI_clamp (by omega), h3 k (by omega), nI_1]
    refine ih (k + 1) n _ (by omega) (by omega) (fun id w => by rw [up2_i _ _ w]; exact h1 id w) (fun h hh => ?_) (fun h hh => by rw [up2_j _ _ (by omega)]; exact h3 h (by omega))
    by_cases hk : h = k
    · subst hk; exact up2_s _ _ _ _
    · rw [up2_j _ _ hk]; exact h2 h (by omega)
theorem Sm_82 {p : Nat} (hp : p = 5 ∨ p = 18) {I I' : IH} (h : ∀ id, id ≠ 82 → I' id = I id) : Sm p I I' := by
  refine ⟨fun id hid => h id (by omega), ⟨?_, ?_, ?_, ?_⟩, fun id _ _ => ?_, fun id j _ _ => ?_, fun j _ => ?_, fun j _ => ?_, fun j _ => ?_⟩ <;> rw [h _ (by omega)]
theorem m_more_8 {p : Nat} (hp : p = 5 ∨ p = 18) {π : Pln} (hv : PV π) {I : IH} (hP : PlM I 0 π) (hl : I 55 29 = -4) {sa : Nat → Nat} {U m t lk lb : Nat} (hlk8 : lk < 8) (hlb : lb ≤ 99) (hU : U < 256) (ht0 : tot sa (π 0 0) ≤ 20000) (hm : m + t ≤ 1100000) (hS0 : ShM I 0 (π 0 0) sa U m) (hS : ShM I 1 (π 0 0) (goS π 99 0 sa U m t).1 (goS π 99 0 sa U m t).2 (m + t)) :
    ∀ (d k n : Nat) (J : IH), k + d = 6 → d + t + 200 < n → (∀ id, id ≠ 82 → J id = I id) → (∀ h, h < k → J 82 h = -(nI (hss π (goS π 99 0 sa U m t).1 h (π 0 0)))) →
    ∃ I', g_X9_layMore_8 n (nI lk) (nI lb) (nI t) (nI k) J = some I' ∧ (∀ h, h < 6 → I' 82 h = mor π (goS π 99 0 sa U m t).1 (goS π lk lb sa U m t).1 h) ∧ Sm p I I' := by
  have hV := goS_V hv (lk := 99) (lb := 0) hU ht0 (t := t) (m := m) (by omega)
  have hV2 := goS_V hv (lk := lk) (lb := lb) hU ht0 (t := t) (m := m) (by omega)
  intro d
  induction d with
  | zero =>
    intro k n J hk hn h1 h2
    obtain ⟨n, rfl⟩ : ∃ k, n = k + 1 := ⟨n - 1, by omega⟩
    obtain ⟨K, hK⟩ : ∃ K, K = up2 (up2 J 55 29 (nI lk)) 55 30 (nI lb) := ⟨_, rfl⟩
    have kf : ∀ id, id ≠ 55 → K id = J id := fun id w => by rw [hK, up2_i _ _ w, up2_i _ _ w]
    have k55 : ∀ j, j ≠ 29 → j ≠ 30 → K 55 j = I 55 j := fun j w1 w2 => by rw [hK, up2_j _ _ w2, up2_j _ _ w1, h1 _ (by omega)]
    have kI : ∀ id, id ≠ 55 → id ≠ 82 → K id = I id := fun id w1 w2 => by rw [kf id w1, h1 id w2]
    have pmK : PlM K 0 π := PlM_congr (by omega) (fun j _ _ => kI _ (by omega) (by omega)) hP
    obtain ⟨J2, b1, b2, b3, b4, b5⟩ := m_run (n := n) (I := K) (t := t) (lk := lk) (lb := lb) hv (by omega) hU ht0 hm hlb pmK (by rw [hK, up2_j _ _ (by omega), up2_s]; exact late_is hlk8) (fun x _ _ => by rw [hK, up2_s]) (ShM_congr hv.2.1 (fun j _ _ => by rw [kI _ (by omega) (by omega)]) (fun j _ _ => by rw [kI _ (by omega) (by omega)]) (by rw [kI _ (by omega) (by omega)]) hS0)
    obtain ⟨L, hL⟩ : ∃ L, L = up2 J2 55 29 (-4) := ⟨_, rfl⟩
    have lf : ∀ id, id ≠ 55 → L id = J2 id := fun id w => by rw [hL, up2_i _ _ w]
    obtain ⟨q1, q2, q3, q4, q5⟩ := b5
    obtain ⟨I', g1, g2, g3⟩ := m_more_60 hp hv (I := L) (B := (goS π lk lb sa U m t).1) (U := (goS π lk lb sa U m t).2) (m := m + t) (PlM_congr (by omega) (fun j _ _ => by rw [lf _ (by omega), q5 _ (by omega) (by omega) (by omega) (by omega) (by omega)]) pmK) (ShM_congr hv.2.1 (fun j _ _ => by rw [lf _ (by omega)]) (fun j _ _ => by rw [lf _ (by omega)]) (by rw [lf _ (by omega)]) b2) hV2 6 0 n L (by omega) (by omega) (fun _ _ => rfl) (fun h hh => by omega) (fun _ _ => rfl)
    refine ⟨I', ?_, fun h hh => ?_, ?_⟩
    · simp only [g_X9_layMore_8, bnd_eq]
      rw [show (6 : Int32) = nI 6 from rfl, if_pos (nI_le (by omega) (by omega)), ← hK, b1]
      dsimp only
      rw [← hL]
      exact g1
    · rw [g2 h hh, lf _ (by omega), q5 _ (by omega) (by omega) (by omega) (by omega) (by omega), kf _ (by omega), h2 h (by omega)]
      rfl
    · have e55 : ∀ j, j ≠ 29 → j ≠ 30 → j ≠ 32 → I' 55 j = I 55 j := fun j w1 w2 w3 => by rw [g3 _ (by omega), hL, up2_j _ _ w1, q4 j w3, k55 j w1 w2]
      have eI : ∀ id, id ≠ 55 → id ≠ 82 → id ≠ 74 → id ≠ 75 → id ≠ 76 → id ≠ 81 → I' id = I id := fun id w1 w2 w3 w4 w5 w6 => by rw [g3 id w2, lf id w1, q5 id w3 w4 w5 w6 w1, kI id w1 w2]
      refine ⟨fun id hid => eI id (by omega) (by omega) (by omega) (by omega) (by omega) (by omega), ⟨e55 _ (by omega) (by omega) (by omega), e55 _ (by omega) (by omega) (by omega), e55 _ (by omega) (by omega) (by omega), by rw [g3 _ (by omega), hL, up2_s, hl]⟩, fun id _ _ => ?_, fun id j _ _ => ?_, fun j hj => ?_, fun j hj => ?_, fun j hj => ?_⟩
      · rw [eI id (by omega) (by omega) (by omega) (by omega) (by omega) (by omega)]
      · rw [eI id (by omega) (by omega) (by omega) (by omega) (by omega) (by omega)]
      · rw [g3 _ (by omega), lf _ (by omega), q1 j (by omega), kI _ (by omega) (by omega)]
      · rw [g3 _ (by omega), lf _ (by omega), q2 j (by omega), kI _ (by omega) (by omega)]
      · rw [g3 _ (by omega), lf _ (by omega), q3 j hj, kI _ (by omega) (by omega)]
  | succ d ih =>
    intro k n J hk hn h1 h2
    obtain ⟨n, rfl⟩ : ∃ k, n = k + 1 := ⟨n - 1, by omega⟩
    have q := m_has (b := 1) (n := n) (h := k) (I := J) (by omega) (by omega) hv (PlM_congr (by omega) (fun j _ _ => h1 _ (by omega)) hP) (ShM_congr hv.2.1 (fun j _ _ => by rw [h1 _ (by omega)]) (fun j _ _ => by rw [h1 _ (by omega)]) (by rw [h1 _ (by omega)]) hS) hV (by omega)
    simp only [g_X9_layMore_8, bnd_eq]
    rw [show (6 : Int32) = nI 6 from rfl, if_neg (nI_ge (by omega) (by omega)), show g_X9_hasOf n 1 (nI k) J = _ from q]
    dsimp only
    rw [inB_t (by omega : k < 6) (by omega), if_pos rfl, nI_clamp (by omega), nI_1]
    refine ih (k + 1) n _ (by omega) (by omega) (fun id w => by rw [up2_i _ _ w]; exact h1 id w) (fun h hh => ?_)
    by_cases hk : h = k
    · subst hk; exact up2_s _ _ _ _
    · rw [up2_j _ _ hk]; exact h2 h (by omega)
theorem m_more {p n : Nat} (hp : p = 5 ∨ p = 18) {π : Pln} (hv : PV π) {I : IH} (hP : PlM I 0 π) (hl : I 55 29 = -4) {sa : Nat → Nat} {U m t lk lb : Nat} (hn : t + 300 ≤ n) (hlk8 : lk < 8) (hlb : lb ≤ 99) (hU : U < 256) (ht0 : tot sa (π 0 0) ≤ 20000) (hm : m + t ≤ 1100000) (hS0 : ShM I 0 (π 0 0) sa U m) :
    ∃ I', g_X9_layMore n (nI lk) (nI lb) (nI t) I = some I' ∧ (∀ h, h < 6 → I' 82 h = mor π (goS π 99 0 sa U m t).1 (goS π lk lb sa U m t).1 h) ∧ Sm p I I' := by
  obtain ⟨J2, b1, b2, b3, b4, b5⟩ := m_run (n := n) (I := I) (t := t) (lk := 99) (lb := 0) hv (by omega) hU ht0 hm (by omega) hP (by rw [hl]; exact nobody4) (fun k h1 h2 => by omega) hS0
  obtain ⟨q1, q2, q3, q4, q5⟩ := b5
  obtain ⟨I', g1, g2, g3⟩ := m_more_8 hp hv (I := J2) (lk := lk) (lb := lb) (t := t) (Bk_PlM ⟨q1, q2, q3, q4, q5⟩ hP) (by rw [q4 _ (by omega)]; exact hl) hlk8 hlb hU ht0 hm (ShM_congr hv.2.1 (fun j _ _ => q1 j (by omega)) (fun j _ _ => q2 j (by omega)) (q3 _ (by omega)) hS0) b2 6 0 n J2 (by omega) (by omega) (fun _ _ => rfl) (fun h hh => by omega)
  refine ⟨I', ?_, g2, Sm_trans (Sm_Bk hp ⟨q1, q2, q3, q4, q5⟩) g3⟩
  simp only [g_X9_layMore]
  rw [b1]
  exact g1
theorem o_late : op_late Inv := by
  intro p I a0 a1 a2 a3 h
  have h0 := h
  obtain ⟨hp, tx, hl, π, hv, pc, tu, pm, ⟨sa, U, m, ⟨s1, s2, s3, s4, s5⟩, un⟩, z, ta, ti, ki⟩ := h
  have hG := hv.2.1
  have hC := hv.2.2.2.2.2.1
  have e68 : I 68 0 = nI (π 11 0) := pm.2.2.2.2.1
  have e11 : I p 11 = nI (π 11 0) := pc.2.2.2.1
  by_cases hc0 : dl3 (nI (π 11 0)) a0 a1 a2
  case neg =>
    refine ⟨0, 0, -1, I, I, ?_, ?_, h0⟩
    · simp only [g_X8_late]
      rw [c_isDelay, e11]
      dsimp only
      rw [r01, if_neg hc0]
    · simp only [g_X9_late]
      rw [m_isLate, e68]
      dsimp only
      rw [r01, if_neg hc0]
  by_cases hc1 : 0 ≤ a3 ∧ a3 ≤ 5
  case neg =>
    refine ⟨0, 0, -1, I, I, ?_, ?_, h0⟩
    · simp only [g_X8_late]
      rw [c_isDelay, e11]
      dsimp only
      rw [r01, if_pos hc0, c_isHand]
      dsimp only
      rw [r01, if_neg hc1]
    · simp only [g_X9_late]
      rw [m_isLate, e68]
      dsimp only
      rw [r01, if_pos hc0, m_isHand]
      dsimp only
      rw [r01, if_neg hc1]
  obtain ⟨k, hk, rfl⟩ := cl_of hC hc0.1
  obtain ⟨lb, hlb, rfl⟩ := rng_of (N := 99) rfl (by omega) hc0.2.1
  obtain ⟨t, ht, rfl⟩ := rng_of (N := 20000) rfl (by omega) hc0.2.2
  obtain ⟨x, hx, rfl⟩ := rng_of (N := 5) rfl (by omega) hc1
  have hV := goS_V hv (lk := 99) (lb := 0) s1 (by omega : tot sa (π 0 0) ≤ 20000) (t := t) (m := m) (by omega)
  have hV2 := goS_V hv (lk := k) (lb := lb) s1 (by omega : tot sa (π 0 0) ≤ 20000) (t := t) (m := m) (by omega)
  obtain ⟨J1, a1, a2, a3⟩ := c_look (n := t + 300) hp hv (t := t) (lk := 99) (lb := 0) (by omega) s1 (by omega) (by omega) nobody (by omega) pc tu s4
  have pc1 : PlC J1 p π := PlC_congr (fun j hj => a3 _ (by omega) (by omega)) pc
  obtain ⟨J2, b1, b2, b3⟩ := c_look (n := t + 300) (I := J1) hp hv (t := t) (lk := k) (lb := lb) (by omega) s1 (by omega) (by omega) (late_is (by omega)) hlb pc1 (fun x hx => by rw [a3 _ (by omega) (by omega)]; exact tu x hx) (ShC_congr (a3 _ (by omega) (by omega)) (a3 _ (by omega) (by omega)) s4)
  have f2 : ∀ id, id ≠ 33 → id ≠ 34 → J2 id = I id := fun id h1 h2 => by rw [b3 id h1 h2, a3 id h1 h2]
  have sm1 := Sm_33 hp f2
  obtain ⟨J3, d1, d2, d3⟩ := m_more (p := p) (n := t + 300) (I := J2) (lk := k) (lb := lb) (t := t) hp hv (Sm_PlM sm1 hv pm) (by rw [f2 _ (by omega) (by omega)]; exact hl) (by omega) (by omega) hlb s1 (by omega) (by omega) (ShM_congr hG (fun j _ _ => by rw [f2 _ (by omega) (by omega)]) (fun j _ _ => by rw [f2 _ (by omega) (by omega)]) (by rw [f2 _ (by omega) (by omega)]) s5)
  refine ⟨t + 300, t + 300, mor π (goS π 99 0 sa U m t).1 (goS π k lb sa U m t).1 x + 100000, J2, J3, ?_, ?_, Inv_Sm h0 (Sm_trans sm1 d3)⟩
  · simp only [g_X8_late]
    rw [c_isDelay, e11]
    dsimp only
    rw [r01, if_pos hc0, c_isHand]
    dsimp only
    rw [r01, if_pos hc1, show g_X8_lookAhead (t + 300) p (nI t) (-1) 0 I = some J1 from a1]
    dsimp only
    rw [c_has (by omega) hv pc1 a2 hV hx]
    dsimp only
    rw [b1]
    dsimp only
    rw [c_has (by omega) hv (PlC_congr (fun j hj => b3 _ (by omega) (by omega)) pc1) b2 hV2 hx]
    dsimp only
    rw [mor_sub]
  · simp only [g_X9_late, bnd_eq]
    rw [m_isLate, f2 _ (by omega) (by omega), e68]
    dsimp only
    rw [r01, if_pos hc0, m_isHand]
    dsimp only
    rw [r01, if_pos hc1, d1]
    dsimp only
    rw [inB_t (by omega : x < 6) (by omega), if_pos rfl, nI_clamp (by omega), d2 x (by omega)]
/-- the first of the largest -/
def amx (f : Nat → Int32) : Nat → Nat
  | 0 => 0
  | k + 1 => if f (k + 1) ≤ f (amx f k) then amx f k else k + 1
theorem amx_le (f : Nat → Int32) : ∀ k, amx f k ≤ k := by
  intro k
  induction k with
  | zero => exact Nat.le_refl _
  | succ k ih => unfold amx; split <;> omega
theorem c_hold_loop {p s : Nat} (hp : p = 5 ∨ p = 18) (hs : s = 31 ∨ s = 33) {π : Pln} (hv : PV π) {I : IH} (hP : PlC I p π) {A : Nat → Nat} {U m : Nat} (hS : ShC I s (π 0 0) A U m) (hV : ShV (π 0 0) A U m) {sm : Nat → Nat} (hsm : ∀ k, sm (k + 1) = sm k + hss π A k (π 0 0)) :
    ∀ (d k n : Nat) (J : IH), k + d = 6 → d + 10 < n → (∀ id, id ≠ 54 → J id = I id) → (∀ h, h < k → J 54 h = nI (hss π A h (π 0 0))) →
    ∃ I', g_X8_countHoldings_4 p s n (nI (sm k)) (nI k) J = some (nI (sm 6), I') ∧ (∀ h, h < 6 → I' 54 h = nI (hss π A h (π 0 0))) ∧ ∀ id, id ≠ 54 → I' id = I id := by
  intro d
  induction d with
  | zero =>
    intro k n J hk hn h1 h2
    obtain ⟨n, rfl⟩ : ∃ k, n = k + 1 := ⟨n - 1, by omega⟩
    simp only [g_X8_countHoldings_4]
    rw [show (6 : Int32) = nI 6 from rfl, if_pos (nI_le (by omega) (by omega)), show k = 6 by omega]
    exact ⟨J, rfl, fun h hh => h2 h (by omega), h1⟩
  | succ d ih =>
    intro k n J hk hn h1 h2
    obtain ⟨n, rfl⟩ : ∃ k, n = k + 1 := ⟨n - 1, by omega⟩
    have q := c_has (s := s) (q := p) (n := n) (h := k) (I := J) (by omega) hv (PlC_congr (fun j _ => h1 _ (by omega)) hP) (ShC_congr (h1 _ (by omega)) (h1 _ (by omega)) hS) hV (by omega)
    simp only [g_X8_countHoldings_4, bnd_eq]
    rw [show (6 : Int32) = nI 6 from rfl, if_neg (nI_ge (by omega) (by omega)), q]
    dsimp only
    rw [inB_t (by omega : k < 6) (by omega)]
    simp only [if_pos]
    rw [nI_clamp (by omega), up2_s, nI_add, nI_1, ← hsm k]
    refine ih (k + 1) n _ (by omega) (by omega) (fun id w => by rw [up2_i _ _ w]; exact h1 id w) (fun h hh => ?_)
    by_cases hk : h = k
    · subst hk; exact up2_s _ _ _ _
    · rw [up2_j _ _ hk]; exact h2 h (by omega)
def hsm (π : Pln) (A : Nat → Nat) : Nat → Nat
  | 0 => 0
  | k + 1 => hsm π A k + hss π A k (π 0 0)
theorem c_hold {p s n : Nat} (hn : 20 ≤ n) (hp : p = 5 ∨ p = 18) (hs : s = 31 ∨ s = 33) {π : Pln} (hv : PV π) {I : IH} (hP : PlC I p π) {A : Nat → Nat} {U m : Nat} (hS : ShC I s (π 0 0) A U m) (hV : ShV (π 0 0) A U m) :
    ∃ I', g_X8_countHoldings n p s I = some (nI (hsm π A 6), I') ∧ (∀ h, h < 6 → I' 54 h = nI (hss π A h (π 0 0))) ∧ ∀ id, id ≠ 54 → I' id = I id := by
  simp only [g_X8_countHoldings]
  exact c_hold_loop hp hs hv hP hS hV (sm := hsm π A) (fun k => rfl) 6 0 n I (by omega) (by omega) (fun _ _ => rfl) (fun h hh => by omega)
theorem c_gain_loop {p : Nat} (hp : p = 5 ∨ p = 18) {π : Pln} (hv : PV π) {I : IH} (hP : PlC I p π) {A B : Nat → Nat} {U m : Nat} (hS : ShC I 33 (π 0 0) B U m) (hV : ShV (π 0 0) B U m) (hA : ∀ h, h < 6 → I 54 h = nI (hss π A h (π 0 0))) (v4 : Int32) :
    ∀ (d k n : Nat), k + d = 5 → d + 10 < n →
    g_X8_gains_69 p n v4 (nI (amx (mor π A B) k)) (mor π A B (amx (mor π A B) k)) (nI (k + 1)) I = some (if v4 = 0 then nI (amx (mor π A B) 5) else mor π A B (amx (mor π A B) 5) + 100000, I) := by
  intro d
  induction d with
  | zero =>
    intro k n hk hn
    obtain ⟨n, rfl⟩ : ∃ k, n = k + 1 := ⟨n - 1, by omega⟩
    simp only [g_X8_gains_69]
    rw [show (6 : Int32) = nI 6 from rfl, if_pos (nI_le (by omega) (by omega)), show k = 5 by omega]
    split <;> rfl
  | succ d ih =>
    intro k n hk hn
    obtain ⟨n, rfl⟩ : ∃ k, n = k + 1 := ⟨n - 1, by omega⟩
    have q := c_has (s := 33) (q := p) (n := n) (h := k + 1) (by omega) hv hP hS hV (by omega)
    have r := ih (k + 1) n (by omega) (by omega)
    simp only [g_X8_gains_69, g_X8_gains_114, bnd_eq]
    rw [show (6 : Int32) = nI 6 from rfl, if_neg (nI_ge (by omega) (by omega)), q]
    dsimp only
    rw [inB_t (by omega : k + 1 < 6) (by omega), if_pos rfl, nI_clamp (by omega), hA _ (by omega), mor_sub, nI_1]
    rw [show amx (mor π A B) (k + 1) = if mor π A B (k + 1) ≤ mor π A B (amx (mor π A B) k) then amx (mor π A B) k else k + 1 from rfl] at r
    by_cases hc : mor π A B (k + 1) ≤ mor π A B (amx (mor π A B) k)
    · rw [if_pos hc] at r
      rw [if_pos hc]
      exact r
    · rw [if_neg hc] at r
      rw [if_neg hc]
      exact r
theorem m_gain_loop {I : IH} {f : Nat → Int32} (hf : ∀ h, h < 6 → I 82 h = f h) (v4 : Int32) :
    ∀ (d k n : Nat), k + d = 5 → d + 10 < n →
    g_X9_gains_36 n v4 (nI (amx f k)) (nI (k + 1)) I = some (if v4 = 0 then nI (amx f 5) else f (amx f 5) + 100000, I) := by
  intro d
  induction d with
  | zero =>
    intro k n hk hn
    obtain ⟨n, rfl⟩ : ∃ k, n = k + 1 := ⟨n - 1, by omega⟩
    have hle := amx_le f 5
    simp only [g_X9_gains_36, bnd_eq]
    rw [show (6 : Int32) = nI 6 from rfl, if_pos (nI_le (by omega) (by omega)), show k = 5 by omega, inB_t (by omega : amx f 5 < 6) (by omega), if_pos rfl, nI_clamp (by omega), hf _ (by omega)]
    split <;> rfl
  | succ d ih =>
    intro k n hk hn
    obtain ⟨n, rfl⟩ : ∃ k, n = k + 1 := ⟨n - 1, by omega⟩
    have hle := amx_le f k
    have r := ih (k + 1) n (by omega) (by omega)
    simp only [g_X9_gains_36, g_X9_gains_67, bnd_eq]
    rw [show (6 : Int32) = nI 6 from rfl, if_neg (nI_ge (by omega) (by omega)), inB_t (by omega : k + 1 < 6) (by omega), if_pos rfl, inB_t (by omega : amx f k < 6) (by omega), if_pos rfl, nI_clamp (by omega), nI_clamp (by omega), hf _ (by omega), hf _ (by omega), nI_1]
    rw [show amx f (k + 1) = if f (k + 1) ≤ f (amx f k) then amx f k else k + 1 from rfl] at r
    by_cases hc : f (k + 1) ≤ f (amx f k)
    · rw [if_pos hc] at r
      rw [if_pos hc]
      exact r
    · rw [if_neg hc] at r
      rw [if_neg hc]
      exact r
theorem Sm_ch {p : Nat} (hp : p = 5 ∨ p = 18) {I I' : IH} (h : ∀ id, id ≠ 33 → id ≠ 34 → id ≠ 54 → I' id = I id) : Sm p I I' := by
  refine ⟨fun id hid => h id (by omega) (by omega) (by omega), ⟨?_, ?_, ?_, ?_⟩, fun id _ _ => ?_, fun id j _ _ => ?_, fun j _ => ?_, fun j _ => ?_, fun j _ => ?_⟩ <;> rw [h _ (by omega) (by omega) (by omega)]
theorem o_gains : op_gains Inv := by
  intro p I a0 a1 a2 a3 h
  have h0 := h
  obtain ⟨hp, tx, hl, π, hv, pc, tu, pm, ⟨sa, U, m, ⟨s1, s2, s3, s4, s5⟩, un⟩, z, ta, ti, ki⟩ := h
  have hG := hv.2.1
  have hC := hv.2.2.2.2.2.1
  have e68 : I 68 0 = nI (π 11 0) := pm.2.2.2.2.1
  have e11 : I p 11 = nI (π 11 0) := pc.2.2.2.1
  by_cases hc0 : dl3 (nI (π 11 0)) a0 a1 a2
  case neg =>
    refine ⟨0, 0, -1, I, I, ?_, ?_, h0⟩
    · simp only [g_X8_gains]
      rw [c_isDelay, e11]
      dsimp only
      rw [r01, if_neg hc0]
    · simp only [g_X9_gains]
      rw [m_isLate, e68]
      dsimp only
      rw [r01, if_neg hc0]
  by_cases hc1 : 0 ≤ a3 ∧ a3 ≤ 1
  case neg =>
    refine ⟨0, 0, -1, I, I, ?_, ?_, h0⟩
    · simp only [g_X8_gains]
      rw [c_isDelay, e11]
      dsimp only
      rw [r01, if_pos hc0, c_within]
      dsimp only
      rw [r01, if_neg hc1]
    · simp only [g_X9_gains]
      rw [m_isLate, e68]
      dsimp only
      rw [r01, if_pos hc0, in_01]
      dsimp only
      rw [r01, if_neg hc1]
  obtain ⟨k, hk, rfl⟩ := cl_of hC hc0.1
  obtain ⟨lb, hlb, rfl⟩ := rng_of (N := 99) rfl (by omega) hc0.2.1
  obtain ⟨t, ht, rfl⟩ := rng_of (N := 20000) rfl (by omega) hc0.2.2
  have hV := goS_V hv (lk := 99) (lb := 0) s1 (by omega : tot sa (π 0 0) ≤ 20000) (t := t) (m := m) (by omega)
  have hV2 := goS_V hv (lk := k) (lb := lb) s1 (by omega : tot sa (π 0 0) ≤ 20000) (t := t) (m := m) (by omega)
  obtain ⟨J1, a1, a2, a3'⟩ := c_look (n := t + 300) hp hv (t := t) (lk := 99) (lb := 0) (by omega) s1 (by omega) (by omega) nobody (by omega) pc tu s4
  have pc1 : PlC J1 p π := PlC_congr (fun j hj => a3' _ (by omega) (by omega)) pc
  obtain ⟨H, e1, e2, e3⟩ := c_hold (n := t + 300) (s := 33) (by omega) hp (by omega) hv pc1 a2 hV
  have fH : ∀ id, id ≠ 33 → id ≠ 34 → id ≠ 54 → H id = I id := fun id h1 h2 h3 => by rw [e3 id h3, a3' id h1 h2]
  have pcH : PlC H p π := PlC_congr (fun j hj => fH _ (by omega) (by omega) (by omega)) pc
  obtain ⟨J2, b1, b2, b3⟩ := c_look (n := t + 300) (I := H) hp hv (t := t) (lk := k) (lb := lb) (by omega) s1 (by omega) (by omega) (late_is (by omega)) hlb pcH (fun x hx => by rw [fH _ (by omega) (by omega) (by omega)]; exact tu x hx) (ShC_congr (fH _ (by omega) (by omega) (by omega)) (fH _ (by omega) (by omega) (by omega)) s4)
  have f2 : ∀ id, id ≠ 33 → id ≠ 34 → id ≠ 54 → J2 id = I id := fun id h1 h2 h3 => by rw [b3 id h1 h2, fH id h1 h2 h3]
  have pc2 : PlC J2 p π := PlC_congr (fun j hj => f2 _ (by omega) (by omega) (by omega)) pc
  have hA : ∀ h, h < 6 → J2 54 h = nI (hss π (goS π 99 0 sa U m t).1 h (π 0 0)) := fun h hh => by rw [b3 _ (by omega) (by omega)]; exact e2 h hh
  have sm1 := Sm_ch hp f2
  obtain ⟨J3, d1, d2, d3⟩ := m_more (p := p) (n := t + 300) (I := J2) (lk := k) (lb := lb) (t := t) hp hv (Sm_PlM sm1 hv pm) (by rw [f2 _ (by omega) (by omega) (by omega)]; exact hl) (by omega) (by omega) hlb s1 (by omega) (by omega) (ShM_congr hG (fun j _ _ => by rw [f2 _ (by omega) (by omega) (by omega)]) (fun j _ _ => by rw [f2 _ (by omega) (by omega) (by omega)]) (by rw [f2 _ (by omega) (by omega) (by omega)]) s5)
  refine ⟨t + 300, t + 300, (if a3 = 0 then nI (amx (mor π (goS π 99 0 sa U m t).1 (goS π k lb sa U m t).1) 5) else mor π (goS π 99 0 sa U m t).1 (goS π k lb sa U m t).1 (amx (mor π (goS π 99 0 sa U m t).1 (goS π k lb sa U m t).1) 5) + 100000), J2, J3, ?_, ?_, Inv_Sm h0 (Sm_trans sm1 d3)⟩
  · simp only [g_X8_gains, bnd_eq]
    rw [c_isDelay, e11]
    dsimp only
    rw [r01, if_pos hc0, c_within]
    dsimp only
    rw [r01, if_pos hc1, show g_X8_lookAhead (t + 300) p (nI t) (-1) 0 I = some J1 from a1]
    dsimp only
    rw [e1]
    dsimp only
    rw [b1]
    dsimp only
    rw [show g_X5_grainsOf (t + 300) 33 p 0 J2 = _ from c_has (h := 0) (by omega) hv pc2 b2 hV2 (by omega)]
    dsimp only
    rw [hA 0 (by omega), mor_sub]
    exact c_gain_loop hp hv pc2 b2 hV2 hA a3 5 0 (t + 300) (by omega) (by omega)
  · simp only [g_X9_gains]
    rw [m_isLate, f2 _ (by omega) (by omega) (by omega), e68]
    dsimp only
    rw [r01, if_pos hc0, in_01]
    dsimp only
    rw [r01, if_pos hc1, d1]
    dsimp only
    exact m_gain_loop d2 a3 5 0 (t + 300) (by omega) (by omega)
