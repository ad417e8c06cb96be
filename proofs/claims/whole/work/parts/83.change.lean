/-! Changes noted and taken back; turn, pour, undo, minutes. -/
theorem UV_congr {e e' : Nat → Nat × Nat × Nat} : ∀ (k : Nat) (sa : Nat → Nat), (∀ j, j < k → e' j = e j) → UV e k sa → UV e' k sa := by
  intro k
  induction k with
  | zero => intro _ _ _; trivial
  | succ k ih =>
    intro sa h hu
    obtain ⟨a, b⟩ := hu
    have hk := h k (by omega)
    exact ⟨by rw [hk]; exact a, by rw [hk]; exact ih _ (fun j hj => h j (by omega)) b⟩
theorem UV_shift {e : Nat → Nat × Nat × Nat} : ∀ (k : Nat) (sa : Nat → Nat), UV e (k + 1) sa → UV (fun j => e (j + 1)) k sa := by
  intro k
  induction k with
  | zero => intro _ _; trivial
  | succ k ih =>
    intro sa hu
    obtain ⟨a, b⟩ := hu
    exact ⟨a, ih _ b⟩
theorem und_0 {e : Nat × Nat × Nat} {sa : Nat → Nat} (h : e.2.2 = 0) : und e sa = sa := by
  funext b
  unfold und
  rw [h]
  split
  · rfl
  · split <;> rfl
/-- what is forgotten -/
def dlt (z : Nat) : Nat := if z = 8 then 1 else 0
def ntd (z : Nat) (e : Nat → Nat × Nat × Nat) (x : Nat × Nat × Nat) : Nat → Nat × Nat × Nat := fun k => if k = z - dlt z then x else e (k + dlt z)
theorem UV_ntd {z : Nat} {e : Nat → Nat × Nat × Nat} {x : Nat × Nat × Nat} {sa sb : Nat → Nat} (h1 : x.2.2 ≤ sb x.2.1) (h2 : und x sb = sa) (h : UV e z sa) : UV (ntd z e x) (z - dlt z + 1) sb := by
  have e0 : ntd z e x (z - dlt z) = x := by unfold ntd; rw [if_pos rfl]
  refine ⟨by rw [e0]; exact h1, ?_⟩
  rw [e0, h2]
  by_cases hz : z = 8
  · subst hz
    have : dlt 8 = 1 := rfl
    rw [this]
    refine UV_congr _ _ (fun j hj => ?_) (UV_shift 7 sa h)
    unfold ntd
    rw [this, if_neg (by omega)]
  · have : dlt z = 0 := by unfold dlt; rw [if_neg hz]
    rw [this]
    refine UV_congr _ _ (fun j hj => ?_) h
    unfold ntd
    rw [this, if_neg (by omega)]
    rfl
set_option maxHeartbeats 1000000 in
theorem c_room_loop {I : IH} : ∀ (d k n : Nat) (J : IH), k + d = 8 → 1 ≤ k → d < n → (∀ id, 36 ≤ id → id ≤ 39 → (∀ x, x < k - 1 → J id x = I id (x + 1)) ∧ ∀ x, k - 1 ≤ x → J id x = I id x) → (∀ id, id < 35 ∨ 39 < id → J id = I id) →
    ∃ I', g_X0_makeRoom_12 n (nI k) J = some I' ∧ I' 35 0 = nI 7 ∧ (∀ id, 36 ≤ id → id ≤ 39 → ∀ x, x < 7 → I' id x = I id (x + 1)) ∧ ∀ id, id < 35 ∨ 39 < id → I' id = I id := by
  intro d
  induction d with
  | zero =>
    intro k n J hk h1 hn hJ hf
    obtain ⟨n, rfl⟩ : ∃ k, n = k + 1 := ⟨n - 1, by omega⟩
    simp only [g_X0_makeRoom_12, bnd_eq]
    rw [li8, if_pos (nI_le (by omega) (by omega))]
    refine ⟨_, rfl, up2_s _ _ _ _, fun id a b x hx => ?_, fun id h => by rw [up2_i _ _ (by omega)]; exact hf id h⟩
    rw [up2_i _ _ (by omega)]
    exact (hJ id a b).1 x (by omega)
  | succ d ih =>
    intro k n J hk h1 hn hJ hf
    obtain ⟨n, rfl⟩ : ∃ k, n = k + 1 := ⟨n - 1, by omega⟩
    have e36 := (hJ 36 (by omega) (by omega)).2 k (by omega)
    have e37 := (hJ 37 (by omega) (by omega)).2 k (by omega)
    have e38 := (hJ 38 (by omega) (by omega)).2 k (by omega)
    have e39 := (hJ 39 (by omega) (by omega)).2 k (by omega)
    simp only [g_X0_makeRoom_12, bnd_eq]
    rw [li8, if_neg (nI_ge (by omega) (by omega)), inB_t (by omega : k < 8) (by omega), if_pos rfl, nI_clamp (by omega), li1, pk_sub h1, inB_t (by omega : k - 1 < 8) (by omega), nI_clamp (by omega), nI_add]
    simp only [if_pos]
    rw [up2_i (a := 37) _ _ (by omega), up2_i (a := 38) _ _ (by omega), up2_i (a := 38) _ _ (by omega), up2_i (a := 39) _ _ (by omega), up2_i (a := 39) _ _ (by omega), up2_i (a := 39) _ _ (by omega), e36, e37, e38, e39]
    refine ih (k + 1) n _ (by omega) (by omega) (by omega) (fun id a b => ?_) (fun id h => by rw [up2_i _ _ (by omega), up2_i _ _ (by omega), up2_i _ _ (by omega), up2_i _ _ (by omega)]; exact hf id h)
    have hid := hJ id a b
    have hk1 : k + 1 - 1 = k := by omega
    rw [hk1]
    have step : ∀ (F : IH), F id = (up2 J id (k - 1) (I id k)) id → (∀ x, x < k → F id x = I id (x + 1)) ∧ ∀ x, k ≤ x → F id x = I id x := by
      intro F hF
      rw [hF]
      refine ⟨fun x hx => ?_, fun x hx => ?_⟩
      · by_cases hxk : x = k - 1
        · subst hxk
          rw [up2_s, show k - 1 + 1 = k by omega]
        · rw [up2_j _ _ hxk]
          exact hid.1 x (by omega)
      · rw [up2_j _ _ (by omega)]
        exact hid.2 x (by omega)
    apply step
    rcases (by omega : id = 36 ∨ id = 37 ∨ id = 38 ∨ id = 39) with q | q | q | q <;> subst q
    · rw [up2_i _ _ (by omega), up2_i _ _ (by omega), up2_i _ _ (by omega)]
    · rw [up2_i _ _ (by omega), up2_i _ _ (by omega)]
      funext x
      by_cases hx : x = k - 1
      · subst hx; rw [up2_s, up2_s]
      · rw [up2_j _ _ hx, up2_j _ _ hx, up2_i _ _ (by omega)]
    · rw [up2_i _ _ (by omega)]
      funext x
      by_cases hx : x = k - 1
      · subst hx; rw [up2_s, up2_s]
      · rw [up2_j _ _ hx, up2_j _ _ hx, up2_i _ _ (by omega), up2_i _ _ (by omega)]
    · funext x
      by_cases hx : x = k - 1
      · subst hx; rw [up2_s, up2_s]
      · rw [up2_j _ _ hx, up2_j _ _ hx, up2_i _ _ (by omega), up2_i _ _ (by omega), up2_i _ _ (by omega)]
theorem c_room {n z : Nat} (hn : 9 ≤ n) {I : IH} (hz : z ≤ 8) (h : I 35 0 = nI z) : ∃ I', g_X0_makeRoom n I = some I' ∧ I' 35 0 = nI (z - dlt z) ∧ (∀ id, 36 ≤ id → id ≤ 39 → ∀ x, x < z - dlt z → I' id x = I id (x + dlt z)) ∧ ∀ id, id < 35 ∨ 39 < id → I' id = I id := by
  simp only [g_X0_makeRoom]
  by_cases h8 : z = 8
  · subst h8
    rw [h, li8, if_pos (nI_le (by omega) (by omega))]
    exact c_room_loop 7 1 n I (by omega) (by omega) (by omega) (fun id _ _ => ⟨fun x hx => by omega, fun _ _ => rfl⟩) (fun _ _ => rfl)
  · have hd : dlt z = 0 := by unfold dlt; rw [if_neg h8]
    rw [h, li8, if_neg (nI_ge (by omega) (by omega)), hd]
    exact ⟨I, rfl, h, fun _ _ _ _ _ => rfl, fun _ _ => rfl⟩
theorem m_note_51 {n z : Nat} {I : IH} (hz : z < 8) (h : I 55 25 = nI z) (a b c : Int32) : ∃ I', g_X9_noteUndo_51 n a b c I = some I' ∧ I' 55 25 = nI (z + 1) ∧ (∀ j, j < 3 * z → I' 79 j = I 79 j) ∧ I' 79 (3 * z) = a ∧ I' 79 (3 * z + 1) = b ∧ I' 79 (3 * z + 2) = c ∧ (∀ j, j ≠ 25 → I' 55 j = I 55 j) ∧ ∀ id, id ≠ 55 → id ≠ 79 → I' id = I id := by
  simp only [g_X9_noteUndo_51, bnd_eq]
  simp only [up2_i (a := 55) (i := 79) _ _ (by omega), h]
  rw [li3, pk_mul, li1, nI_add, li2, nI_add, nI_add, inB_t (by omega : 3 * z < 24) (by omega), inB_t (by omega : 3 * z + 1 < 24) (by omega), inB_t (by omega : 3 * z + 2 < 24) (by omega)]
  simp only [if_pos]
  rw [nI_clamp (by omega), nI_clamp (by omega), nI_clamp (by omega)]
  refine ⟨_, rfl, up2_s _ _ _ _, fun j hj => ?_, ?_, ?_, ?_, fun j hj => ?_, fun id h1 h2 => ?_⟩
  · rw [up2_i _ _ (by omega), up2_j _ _ (by omega), up2_j _ _ (by omega), up2_j _ _ (by omega)]
  · rw [up2_i _ _ (by omega), up2_j _ _ (by omega), up2_j _ _ (by omega), up2_s]
  · rw [up2_i _ _ (by omega), up2_j _ _ (by omega), up2_s]
  · rw [up2_i _ _ (by omega), up2_s]
  · rw [up2_j _ _ hj, up2_i _ _ (by omega), up2_i _ _ (by omega), up2_i _ _ (by omega)]
  · rw [up2_i _ _ h1, up2_i _ _ h2, up2_i _ _ h2, up2_i _ _ h2]
theorem m_note_12 {I : IH} (h : I 55 25 = nI 8) (a b c : Int32) : ∀ (d k n : Nat) (J : IH), k + d = 21 → d < n → (∀ x, x < k → J 79 x = I 79 (x + 3)) → (∀ x, k ≤ x → J 79 x = I 79 x) → (∀ id, id ≠ 79 → J id = I id) →
    ∃ I', g_X9_noteUndo_12 n a b c (nI k) J = some I' ∧ I' 55 25 = nI 8 ∧ (∀ j, j < 21 → I' 79 j = I 79 (j + 3)) ∧ I' 79 21 = a ∧ I' 79 22 = b ∧ I' 79 23 = c ∧ (∀ j, j ≠ 25 → I' 55 j = I 55 j) ∧ ∀ id, id ≠ 55 → id ≠ 79 → I' id = I id := by
  intro d
  induction d with
  | zero =>
    intro k n J hk hn h1 h2 h3
    obtain ⟨n, rfl⟩ : ∃ k, n = k + 1 := ⟨n - 1, by omega⟩
    simp only [g_X9_noteUndo_12, bnd_eq]
    rw [show (21 : Int32) = nI 21 from rfl, if_pos (nI_le (by omega) (by omega)), h3 55 (by omega), h, li1, pk_sub (by omega)]
    obtain ⟨I', k1, k2, k3, k4, k5, k6, k7, k8⟩ := m_note_51 (n := n) (z := 7) (I := up2 J 55 25 (nI (8 - 1))) (by omega) (up2_s _ _ _ _) a b c
    refine ⟨I', k1, k2, fun j hj => ?_, k4, k5, k6, fun j hj => ?_, fun id q1 q2 => ?_⟩
    · rw [k3 j (by omega), up2_i _ _ (by omega)]
      exact h1 j (by omega)
    · rw [k7 j hj, up2_j _ _ hj, h3 55 (by omega)]
    · rw [k8 id q1 q2, up2_i _ _ q1, h3 id q2]
  | succ d ih =>
    intro k n J hk hn h1 h2 h3
    obtain ⟨n, rfl⟩ : ∃ k, n = k + 1 := ⟨n - 1, by omega⟩
    simp only [g_X9_noteUndo_12, bnd_eq]
    rw [show (21 : Int32) = nI 21 from rfl, if_neg (nI_ge (by omega) (by omega)), li3, nI_add, inB_t (by omega : k + 3 < 24) (by omega), if_pos rfl, inB_t (by omega : k < 24) (by omega), if_pos rfl, nI_clamp (by omega), nI_clamp (by omega), nI_1, h2 (k + 3) (by omega)]
    refine ih (k + 1) n _ (by omega) (by omega) (fun x hx => ?_) (fun x hx => ?_) (fun id q => ?_)
    · by_cases hxk : x = k
      · subst hxk; exact up2_s _ _ _ _
      · rw [up2_j _ _ hxk]; exact h1 x (by omega)
    · rw [up2_j _ _ (by omega)]; exact h2 x (by omega)
    · rw [up2_i _ _ q]; exact h3 id q
theorem m_note {n z : Nat} (hn : 30 ≤ n) {I : IH} (hz : z ≤ 8) (h : I 55 25 = nI z) (a b c : Int32) : ∃ I', g_X9_noteUndo n a b c I = some I' ∧ I' 55 25 = nI (z - dlt z + 1) ∧ (∀ k j, k < z - dlt z → j < 3 → I' 79 (3 * k + j) = I 79 (3 * (k + dlt z) + j)) ∧ I' 79 (3 * (z - dlt z)) = a ∧ I' 79 (3 * (z - dlt z) + 1) = b ∧ I' 79 (3 * (z - dlt z) + 2) = c ∧ (∀ j, j ≠ 25 → I' 55 j = I 55 j) ∧ ∀ id, id ≠ 55 → id ≠ 79 → I' id = I id := by
  simp only [g_X9_noteUndo]
  by_cases h8 : z = 8
  · subst h8
    rw [if_pos (by rw [h]; rfl), li0]
    obtain ⟨I', k1, k2, k3, k4, k5, k6, k7, k8⟩ := m_note_12 h a b c 21 0 n I (by omega) (by omega) (fun x hx => by omega) (fun _ _ => rfl) (fun _ _ => rfl)
    refine ⟨I', k1, k2, fun k j hk hj => ?_, k4, k5, k6, k7, k8⟩
    have hd : dlt 8 = 1 := rfl
    rw [hd] at hk ⊢
    rw [k3 _ (by omega), show 3 * (k + 1) + j = 3 * k + j + 3 by omega]
  · have hd : dlt z = 0 := by unfold dlt; rw [if_neg h8]
    rw [if_neg (by rw [h, li8]; exact fun q => h8 ((nI_eq (by omega) (by omega)).mp q)), hd]
    obtain ⟨I', k1, k2, k3, k4, k5, k6, k7, k8⟩ := m_note_51 (n := n) (z := z) (by omega) h a b c
    exact ⟨I', k1, k2, fun k j hk hj => k3 _ (by omega), k4, k5, k6, k7, k8⟩
/-- an entry moves down -/
theorem UnE_mv {I I' : IH} {π : Pln} {k k' : Nat} {e : Nat × Nat × Nat} (h1 : ∀ id, 36 ≤ id → id ≤ 39 → I' id k = I id k') (h5 : ∀ j, j < 3 → I' 79 (3 * k + j) = I 79 (3 * k' + j)) (h : UnE I π k' e) : UnE I' π k e := by
  have h50 := h5 0 (by omega)
  rw [Nat.add_zero, Nat.add_zero] at h50
  unfold UnE at *
  rw [h1 36 (by omega) (by omega), h1 37 (by omega) (by omega), h1 38 (by omega) (by omega), h1 39 (by omega) (by omega), h50, h5 1 (by omega), h5 2 (by omega)]
  exact h
theorem Inv_sh {p : Nat} {I I' : IH} (hp : p = 5 ∨ p = 18) (tx : TxI I) (hl : I 55 29 = -4) {π : Pln} (hv : PV π) (pc : PlC I p π) (tu : TuC I p π) (pm : PlM I 0 π) {z : Nat} {ta : Nat → Nat → Nat} (ti : TaI I π z ta) (ki : KpI I π z ta)
    (s : ∀ id, id ≤ 30 ∨ (40 ≤ id ∧ id ≤ 54) ∨ (56 ≤ id ∧ id ≤ 73) ∨ id = 77 ∨ id = 78 → I' id = I id) (h55 : ∀ j, j ≠ 25 → j ≠ 32 → I' 55 j = I 55 j) (h74 : ∀ j, 32 ≤ j → I' 74 j = I 74 j) (h75 : ∀ j, 16 ≤ j → I' 75 j = I 75 j) (h76 : ∀ j, 2 ≤ j → I' 76 j = I 76 j) (hs : ∃ sa U m, ShI I' 31 0 π sa U m ∧ UnI I' π sa) : Inv p I' := by
  have hG := hv.2.1
  exact ⟨hp, TxI_congr (s _ (by omega)) (s _ (by omega)) (h55 _ (by omega) (by omega)) (s _ (by omega)) tx, by rw [h55 _ (by omega) (by omega)]; exact hl, π, hv, PlC_congr (fun j hj => s _ (by omega)) pc, fun x hx => by rw [s _ (by omega)]; exact tu x hx, PlM_congr (by omega) (fun j _ _ => s _ (by omega)) pm, hs, z, ta, TaI_congr (fun j _ _ => s _ (by omega)) (by rw [s _ (by omega)]) (fun j _ => by rw [s _ (by omega)]) ti, KpI_congr hG (by rw [s _ (by omega)]) (h55 _ (by omega) (by omega)) (fun j _ _ => s _ (by omega)) (fun j _ => by rw [s _ (by omega)]) (fun j _ => by rw [s _ (by omega)]) h74 h75 h76 ki⟩
theorem c_noteTurn {n z : Nat} (hn : 9 ≤ n) {I : IH} (hz : z ≤ 8) (h : I 35 0 = nI z) (a : Int32) : ∃ I', g_X0_noteTurn n a I = some I' ∧ I' 35 0 = nI (z - dlt z + 1) ∧ (∀ id, 36 ≤ id → id ≤ 39 → ∀ x, x < z - dlt z → I' id x = I id (x + dlt z)) ∧ I' 36 (z - dlt z) = a ∧ ∀ id, id < 35 ∨ 39 < id → I' id = I id := by
  simp only [g_X0_noteTurn, bnd_eq]
  obtain ⟨J, a1, a2, a3, a4⟩ := c_room hn hz h
  have hd : z - dlt z < 8 := by unfold dlt; split <;> omega
  rw [a1]
  dsimp only
  rw [a2, inB_t hd (by omega), if_pos rfl, nI_clamp (by omega), up2_i _ _ (by omega), a2, nI_1]
  refine ⟨_, rfl, up2_s _ _ _ _, fun id h1 h2 x hx => ?_, ?_, fun id hid => ?_⟩
  · rw [up2_i _ _ (by omega)]
    by_cases h36 : id = 36
    · subst h36; rw [up2_j _ _ (by omega)]; exact a3 36 h1 h2 x hx
    · rw [up2_i _ _ h36]; exact a3 id h1 h2 x hx
  · rw [up2_i _ _ (by omega), up2_s]
  · rw [up2_i _ _ (by omega), up2_i _ _ (by omega)]; exact a4 id hid
theorem c_notePour {n z : Nat} (hn : 9 ≤ n) {I : IH} (hz : z ≤ 8) (h : I 35 0 = nI z) (a b c : Int32) : ∃ I', g_X0_notePouring n a b c I = some I' ∧ I' 35 0 = nI (z - dlt z + 1) ∧ (∀ id, 36 ≤ id → id ≤ 39 → ∀ x, x < z - dlt z → I' id x = I id (x + dlt z)) ∧ (I' 36 (z - dlt z) = 0 ∧ I' 37 (z - dlt z) = a ∧ I' 38 (z - dlt z) = b ∧ I' 39 (z - dlt z) = c) ∧ ∀ id, id < 35 ∨ 39 < id → I' id = I id := by
  simp only [g_X0_notePouring, bnd_eq]
  obtain ⟨J, a1, a2, a3, a4⟩ := c_room hn hz h
  have hd : z - dlt z < 8 := by unfold dlt; split <;> omega
  rw [a1]
  dsimp only
  simp only [up2_i (a := 35) (i := 36) _ _ (by omega), up2_i (a := 35) (i := 37) _ _ (by omega), up2_i (a := 35) (i := 38) _ _ (by omega), up2_i (a := 35) (i := 39) _ _ (by omega), a2]
  rw [inB_t hd (by omega), nI_clamp (by omega), nI_1]
  simp only [if_pos]
  refine ⟨_, rfl, up2_s _ _ _ _, fun id h1 h2 x hx => ?_, ⟨?_, ?_, ?_, ?_⟩, fun id hid => ?_⟩
  · rw [up2_i _ _ (by omega)]
    have hne : x ≠ z - dlt z := by omega
    rw [← a3 id h1 h2 x hx]
    rcases (by omega : id = 36 ∨ id = 37 ∨ id = 38 ∨ id = 39) with q | q | q | q <;> subst q
    · rw [up2_i _ _ (by omega), up2_i _ _ (by omega), up2_i _ _ (by omega), up2_j _ _ hne]
    · rw [up2_i _ _ (by omega), up2_i _ _ (by omega), up2_j _ _ hne, up2_i _ _ (by omega)]
    · rw [up2_i _ _ (by omega), up2_j _ _ hne, up2_i _ _ (by omega), up2_i _ _ (by omega)]
    · rw [up2_j _ _ hne, up2_i _ _ (by omega), up2_i _ _ (by omega), up2_i _ _ (by omega)]
  · rw [up2_i _ _ (by omega), up2_i _ _ (by omega), up2_i _ _ (by omega), up2_i _ _ (by omega), up2_s]
  · rw [up2_i _ _ (by omega), up2_i _ _ (by omega), up2_i _ _ (by omega), up2_s]
  · rw [up2_i _ _ (by omega), up2_i _ _ (by omega), up2_s]
  · rw [up2_i _ _ (by omega), up2_s]
  · rw [up2_i _ _ (by omega), up2_i _ _ (by omega), up2_i _ _ (by omega), up2_i _ _ (by omega), up2_i _ _ (by omega)]; exact a4 id hid
