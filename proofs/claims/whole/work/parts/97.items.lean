/-! what an item adds -/
def PVd (π : Pln) : Prop := π 0 0 ≤ 8 ∧ (∀ i, i < π 0 0 → π 1 i ≤ 3 ∧ 1 ≤ π 2 i ∧ π 2 i ≤ 60 ∧ π 3 i ≤ 5 ∧ π 4 i ≤ 5 ∧ π 5 i ≤ 5 ∧ π 6 i ≤ 999 ∧ π 7 i ≤ 999) ∧ π 8 0 ≤ 8 ∧ (∀ k, k < π 8 0 → π 9 k < π 0 0 ∧ π 10 k < π 0 0) ∧ π 11 0 ≤ 8 ∧ (∀ k, k < π 11 0 → π 12 k < π 0 0 ∧ 1 ≤ π 13 k ∧ π 13 k ≤ 99 ∧ π 14 k ≤ 99) ∧ π 15 0 ≤ 99 ∧ π 16 0 ≤ 99
theorem PVd_PV {π : Pln} (h : PVd π) (h1 : 1 ≤ π 0 0) : PV π := ⟨h1, h⟩
def adC (π : Pln) (a : Nat → Nat) : Pln := up2 (up2 (up2 (up2 π 12 (π 11 0) (a 0)) 13 (π 11 0) (a 1)) 14 (π 11 0) (a 2)) 11 0 (π 11 0 + 1)
def adT (π : Pln) (a : Nat → Nat) : Pln := up2 (up2 (up2 π 9 (π 8 0) (a 0)) 10 (π 8 0) (a 1)) 8 0 (π 8 0 + 1)
def adP (π : Pln) (a : Nat → Nat) : Pln := up2 π 3 (a 0) (a 1)
def adR (π : Pln) (a : Nat → Nat) : Pln := up2 (up2 π 15 0 (a 0)) 16 0 (a 1)
def adG (π : Pln) (a : Nat → Nat) : Pln := up2 (up2 (up2 (up2 (up2 (up2 (up2 (up2 π 1 (π 0 0) (a 0)) 2 (π 0 0) (a 3)) 3 (π 0 0) (a 1)) 4 (π 0 0) (a 1)) 5 (π 0 0) (a 2)) 6 (π 0 0) (a 4)) 7 (π 0 0) (a 5)) 0 0 (π 0 0 + 1)
abbrev okC (π : Pln) (a : Nat → Nat) : Prop := π 11 0 < 8 ∧ a 0 < π 0 0 ∧ 1 ≤ a 1 ∧ a 1 ≤ 99 ∧ a 2 ≤ 99
abbrev okG (π : Pln) (a : Nat → Nat) : Prop := π 0 0 < 8 ∧ a 0 ≤ 3 ∧ a 1 ≤ 5 ∧ a 2 ≤ 5 ∧ 1 ≤ a 3 ∧ a 3 ≤ 60
abbrev okP (π : Pln) (a : Nat → Nat) : Prop := a 0 < π 0 0 ∧ a 1 ≤ 5
abbrev okR (a : Nat → Nat) : Prop := a 0 ≤ 99 ∧ a 1 ≤ 99
abbrev okT (π : Pln) (a : Nat → Nat) : Prop := π 8 0 < 8 ∧ a 0 < π 0 0 ∧ a 1 < π 0 0 ∧ a 0 ≠ a 1
def ad (c : Nat) (π : Pln) (a : Nat → Nat) : Option Pln :=
  if c = 99 then (if okC π a then some (adC π a) else none)
  else if c = 103 then (if okG π a then some (adG π a) else none)
  else if c = 112 then (if okP π a then some (adP π a) else none)
  else if c = 114 then (if okR a then some (adR π a) else none)
  else if c = 121 then (if okT π a then some (adT π a) else none)
  else none
theorem adC_o {π : Pln} {a : Nat → Nat} {f : Nat} (h : f < 11 ∨ 14 < f) : adC π a f = π f := by
  unfold adC
  rw [up2_i _ _ (by omega), up2_i _ _ (by omega), up2_i _ _ (by omega), up2_i _ _ (by omega)]
theorem adT_o {π : Pln} {a : Nat → Nat} {f : Nat} (h : f < 8 ∨ 10 < f) : adT π a f = π f := by
  unfold adT
  rw [up2_i _ _ (by omega), up2_i _ _ (by omega), up2_i _ _ (by omega)]
theorem adG_o {π : Pln} {a : Nat → Nat} {f : Nat} (h : 7 < f) : adG π a f = π f := by
  unfold adG
  rw [up2_i _ _ (by omega), up2_i _ _ (by omega), up2_i _ _ (by omega), up2_i _ _ (by omega), up2_i _ _ (by omega), up2_i _ _ (by omega), up2_i _ _ (by omega), up2_i _ _ (by omega)]
theorem adP_o {π : Pln} {a : Nat → Nat} {f : Nat} (h : f ≠ 3) : adP π a f = π f := up2_i _ _ h
theorem adR_o {π : Pln} {a : Nat → Nat} {f : Nat} (h : f < 15) : adR π a f = π f := by
  unfold adR
  rw [up2_i _ _ (by omega), up2_i _ _ (by omega)]
theorem adC_11 {π : Pln} {a : Nat → Nat} : adC π a 11 0 = π 11 0 + 1 := by simp [adC, up2]
theorem adC_12 {π : Pln} {a : Nat → Nat} {k : Nat} : adC π a 12 k = if k = π 11 0 then a 0 else π 12 k := by simp [adC, up2]
theorem adC_13 {π : Pln} {a : Nat → Nat} {k : Nat} : adC π a 13 k = if k = π 11 0 then a 1 else π 13 k := by simp [adC, up2]
theorem adC_14 {π : Pln} {a : Nat → Nat} {k : Nat} : adC π a 14 k = if k = π 11 0 then a 2 else π 14 k := by simp [adC, up2]
theorem adT_8 {π : Pln} {a : Nat → Nat} : adT π a 8 0 = π 8 0 + 1 := by simp [adT, up2]
theorem adT_9 {π : Pln} {a : Nat → Nat} {k : Nat} : adT π a 9 k = if k = π 8 0 then a 0 else π 9 k := by simp [adT, up2]
theorem adT_10 {π : Pln} {a : Nat → Nat} {k : Nat} : adT π a 10 k = if k = π 8 0 then a 1 else π 10 k := by simp [adT, up2]
theorem adP_3 {π : Pln} {a : Nat → Nat} {k : Nat} : adP π a 3 k = if k = a 0 then a 1 else π 3 k := by simp [adP, up2]
theorem adR_15 {π : Pln} {a : Nat → Nat} : adR π a 15 0 = a 0 := by simp [adR, up2]
theorem adR_16 {π : Pln} {a : Nat → Nat} : adR π a 16 0 = a 1 := by simp [adR, up2]
theorem adG_0 {π : Pln} {a : Nat → Nat} : adG π a 0 0 = π 0 0 + 1 := by simp [adG, up2]
theorem adG_1 {π : Pln} {a : Nat → Nat} {k : Nat} : adG π a 1 k = if k = π 0 0 then a 0 else π 1 k := by simp [adG, up2]
theorem adG_2 {π : Pln} {a : Nat → Nat} {k : Nat} : adG π a 2 k = if k = π 0 0 then a 3 else π 2 k := by simp [adG, up2]
theorem adG_3 {π : Pln} {a : Nat → Nat} {k : Nat} : adG π a 3 k = if k = π 0 0 then a 1 else π 3 k := by simp [adG, up2]
theorem adG_4 {π : Pln} {a : Nat → Nat} {k : Nat} : adG π a 4 k = if k = π 0 0 then a 1 else π 4 k := by simp [adG, up2]
theorem adG_5 {π : Pln} {a : Nat → Nat} {k : Nat} : adG π a 5 k = if k = π 0 0 then a 2 else π 5 k := by simp [adG, up2]
theorem adG_6 {π : Pln} {a : Nat → Nat} {k : Nat} : adG π a 6 k = if k = π 0 0 then a 4 else π 6 k := by simp [adG, up2]
theorem adG_7 {π : Pln} {a : Nat → Nat} {k : Nat} : adG π a 7 k = if k = π 0 0 then a 5 else π 7 k := by simp [adG, up2]
theorem PVd_C {π : Pln} {a : Nat → Nat} (hv : PVd π) (h : okC π a) : PVd (adC π a) := by
  obtain ⟨v1, v2, v3, v4, v5, v6, v7, v8⟩ := hv
  obtain ⟨o1, o2, o3, o4, o5⟩ := h
  unfold PVd
  rw [adC_o (f := 0) (by omega), adC_o (f := 1) (by omega), adC_o (f := 2) (by omega), adC_o (f := 3) (by omega), adC_o (f := 4) (by omega), adC_o (f := 5) (by omega), adC_o (f := 6) (by omega), adC_o (f := 7) (by omega), adC_o (f := 8) (by omega), adC_o (f := 9) (by omega), adC_o (f := 10) (by omega), adC_o (f := 15) (by omega), adC_o (f := 16) (by omega), adC_11]
  refine ⟨v1, v2, v3, v4, by omega, fun k hk => ?_, v7, v8⟩
  rw [adC_12, adC_13, adC_14]
  by_cases c : k = π 11 0
  · rw [if_pos c, if_pos c, if_pos c]
    exact ⟨o2, o3, o4, o5⟩
  · rw [if_neg c, if_neg c, if_neg c]
    exact v6 k (by omega)
theorem PVd_T {π : Pln} {a : Nat → Nat} (hv : PVd π) (h : okT π a) : PVd (adT π a) := by
  obtain ⟨v1, v2, v3, v4, v5, v6, v7, v8⟩ := hv
  obtain ⟨o1, o2, o3, o4⟩ := h
  unfold PVd
  rw [adT_o (f := 0) (by omega), adT_o (f := 1) (by omega), adT_o (f := 2) (by omega), adT_o (f := 3) (by omega), adT_o (f := 4) (by omega), adT_o (f := 5) (by omega), adT_o (f := 6) (by omega), adT_o (f := 7) (by omega), adT_o (f := 11) (by omega), adT_o (f := 12) (by omega), adT_o (f := 13) (by omega), adT_o (f := 14) (by omega), adT_o (f := 15) (by omega), adT_o (f := 16) (by omega), adT_8]
  refine ⟨v1, v2, by omega, fun k hk => ?_, v5, v6, v7, v8⟩
  rw [adT_9, adT_10]
  by_cases c : k = π 8 0
  · rw [if_pos c, if_pos c]
    exact ⟨o2, o3⟩
  · rw [if_neg c, if_neg c]
    exact v4 k (by omega)
theorem PVd_P {π : Pln} {a : Nat → Nat} (hv : PVd π) (h : okP π a) : PVd (adP π a) := by
  obtain ⟨v1, v2, v3, v4, v5, v6, v7, v8⟩ := hv
  obtain ⟨o1, o2⟩ := h
  unfold PVd
  rw [adP_o (f := 0) (by omega), adP_o (f := 1) (by omega), adP_o (f := 2) (by omega), adP_o (f := 4) (by omega), adP_o (f := 5) (by omega), adP_o (f := 6) (by omega), adP_o (f := 7) (by omega), adP_o (f := 8) (by omega), adP_o (f := 9) (by omega), adP_o (f := 10) (by omega), adP_o (f := 11) (by omega), adP_o (f := 12) (by omega), adP_o (f := 13) (by omega), adP_o (f := 14) (by omega), adP_o (f := 15) (by omega), adP_o (f := 16) (by omega)]
  refine ⟨v1, fun i hi => ?_, v3, v4, v5, v6, v7, v8⟩
  obtain ⟨w1, w2, w3, w4, w5⟩ := v2 i hi
  refine ⟨w1, w2, w3, ?_, w5⟩
  rw [adP_3]
  split
  · exact o2
  · exact w4
theorem PVd_R {π : Pln} {a : Nat → Nat} (hv : PVd π) (h : okR a) : PVd (adR π a) := by
  obtain ⟨v1, v2, v3, v4, v5, v6, v7, v8⟩ := hv
  obtain ⟨o1, o2⟩ := h
  unfold PVd
  rw [adR_o (f := 0) (by omega), adR_o (f := 1) (by omega), adR_o (f := 2) (by omega), adR_o (f := 3) (by omega), adR_o (f := 4) (by omega), adR_o (f := 5) (by omega), adR_o (f := 6) (by omega), adR_o (f := 7) (by omega), adR_o (f := 8) (by omega), adR_o (f := 9) (by omega), adR_o (f := 10) (by omega), adR_o (f := 11) (by omega), adR_o (f := 12) (by omega), adR_o (f := 13) (by omega), adR_o (f := 14) (by omega), adR_15, adR_16]
  exact ⟨v1, v2, v3, v4, v5, v6, o1, o2⟩
theorem PVd_G {π : Pln} {a : Nat → Nat} (hv : PVd π) (ha : ∀ j, a j ≤ 999) (h : okG π a) : PVd (adG π a) := by
  obtain ⟨v1, v2, v3, v4, v5, v6, v7, v8⟩ := hv
  obtain ⟨o1, o2, o3, o4, o5, o6⟩ := h
  unfold PVd
  rw [adG_o (f := 8) (by omega), adG_o (f := 9) (by omega), adG_o (f := 10) (by omega), adG_o (f := 11) (by omega), adG_o (f := 12) (by omega), adG_o (f := 13) (by omega), adG_o (f := 14) (by omega), adG_o (f := 15) (by omega), adG_o (f := 16) (by omega), adG_0]
  refine ⟨by omega, fun i hi => ?_, v3, fun k hk => ?_, v5, fun k hk => ?_, v7, v8⟩
  · rw [adG_1, adG_2, adG_3, adG_4, adG_5, adG_6, adG_7]
    by_cases c : i = π 0 0
    · rw [if_pos c, if_pos c, if_pos c, if_pos c, if_pos c, if_pos c, if_pos c]
      exact ⟨o2, o5, o6, o3, o3, o4, ha 4, ha 5⟩
    · rw [if_neg c, if_neg c, if_neg c, if_neg c, if_neg c, if_neg c, if_neg c]
      exact v2 i (by omega)
  · have := v4 k hk
    omega
  · obtain ⟨w1, w2, w3, w4⟩ := v6 k hk
    exact ⟨by omega, w2, w3, w4⟩
theorem ad_PV {c : Nat} {π π' : Pln} {a : Nat → Nat} (hv : PVd π) (ha : ∀ j, a j ≤ 999) (h : ad c π a = some π') : PVd π' := by
  unfold ad at h
  split at h
  · split at h
    next o => cases h; exact PVd_C hv o
    next => cases h
  · split at h
    · split at h
      next o => cases h; exact PVd_G hv ha o
      next => cases h
    · split at h
      · split at h
        next o => cases h; exact PVd_P hv o
        next => cases h
      · split at h
        · split at h
          next o => cases h; exact PVd_R hv o
          next => cases h
        · split at h
          · split at h
            next o => cases h; exact PVd_T hv o
            next => cases h
          · cases h
/-! the class adds -/
theorem tmk_congr {π π' : Pln} {i : Nat} : ∀ k, (∀ j, j < k → π' 9 j = π 9 j ∧ π' 10 j = π 10 j) → tmk π' i k = tmk π i k := by
  intro k
  induction k with
  | zero => intro _; rfl
  | succ k ih =>
    intro h
    obtain ⟨h1, h2⟩ := h k (by omega)
    unfold tmk
    rw [h1, h2, ih (fun j hj => h j (by omega))]
theorem tmk_0 {π : Pln} {i : Nat} : ∀ k, (∀ j, j < k → π 9 j ≠ i) → tmk π i k = 0 := by
  intro k
  induction k with
  | zero => intro _; rfl
  | succ k ih =>
    intro h
    unfold tmk
    rw [if_neg (h k (by omega)), ih (fun j hj => h j (by omega))]
def frC (q : Nat) (J I' : IH) : Prop := ∀ id, id < q ∨ q + 12 < id → I' id = J id
theorem c_isTold {n q : Nat} {a : Int32} {J : IH} : g_X2_isTold n q a J = some (if 0 ≤ a ∧ a ≤ J q 0 - 1 then 1 else 0, J) := by
  simp only [g_X2_isTold, c_within, r01s]
theorem inN_0 {x N : Nat} (hN : N < 2 ^ 31) (hx : x ≤ 999) : (0 ≤ nI x ∧ nI x ≤ nI N) ↔ x ≤ N := by
  rw [nI_leI (by omega) hN]
  exact ⟨fun h => h.2, fun h => ⟨nI_pos' (by omega), h⟩⟩
theorem inN_1 {x N : Nat} (hN : N < 2 ^ 31) (hx : x ≤ 999) : ((1 : Int32) ≤ nI x ∧ nI x ≤ nI N) ↔ (1 ≤ x ∧ x ≤ N) := by
  rw [li1, nI_leI (by omega) (by omega), nI_leI (by omega) hN]
theorem i0_3 {x : Nat} (hx : x ≤ 999) : ((0 : Int32) ≤ nI x ∧ nI x ≤ 3) ↔ x ≤ 3 := inN_0 (N := 3) (by omega) hx
theorem i0_5 {x : Nat} (hx : x ≤ 999) : ((0 : Int32) ≤ nI x ∧ nI x ≤ 5) ↔ x ≤ 5 := inN_0 (N := 5) (by omega) hx
theorem i0_99 {x : Nat} (hx : x ≤ 999) : ((0 : Int32) ≤ nI x ∧ nI x ≤ 99) ↔ x ≤ 99 := inN_0 (N := 99) (by omega) hx
theorem i0_999 {x : Nat} (hx : x ≤ 999) : ((0 : Int32) ≤ nI x ∧ nI x ≤ 999) ↔ x ≤ 999 := inN_0 (N := 999) (by omega) hx
theorem i1_99 {x : Nat} (hx : x ≤ 999) : ((1 : Int32) ≤ nI x ∧ nI x ≤ 99) ↔ (1 ≤ x ∧ x ≤ 99) := inN_1 (N := 99) (by omega) hx
theorem i1_60 {x : Nat} (hx : x ≤ 999) : ((1 : Int32) ≤ nI x ∧ nI x ≤ 60) ↔ (1 ≤ x ∧ x ≤ 60) := inN_1 (N := 60) (by omega) hx
theorem c_addC {n q : Nat} {π : Pln} {a : Nat → Nat} {J : IH} (hv : PVd π) (ha : ∀ j, a j ≤ 999) (hP : PlC J q π) :
    (okC π a → ∃ K, g_X2_addClerk n q (nI (a 0)) (nI (a 1)) (nI (a 2)) J = some (1, K) ∧ PlC K q (adC π a) ∧ frC q J K) ∧ (¬ okC π a → g_X2_addClerk n q (nI (a 0)) (nI (a 1)) (nI (a 2)) J = some (0, J)) := by
  have v1 := hv.1
  have v5 := hv.2.2.2.2.1
  have a0 := ha 0
  have a1 := ha 1
  have a2 := ha 2
  obtain ⟨p1, p2, p3, p4, p5, p6, p7⟩ := hP
  simp only [g_X2_addClerk, bnd_eq]
  rw [p4, li8]
  by_cases c1 : π 11 0 < 8
  case neg => exact ⟨fun h => absurd h.1 c1, fun _ => if_pos (nI_le (by omega) (by omega))⟩
  rw [if_neg (nI_ge c1 (by omega)), c_isTold, p1]
  dsimp only
  rw [r01]
  by_cases c2 : a 0 < π 0 0
  case neg => exact ⟨fun h => absurd h.2.1 c2, fun _ => if_neg (fun x => c2 ((le_pred (by omega) (by omega)).mp x))⟩
  rw [if_pos ((le_pred (by omega) (by omega)).mpr c2), c_within]
  dsimp only
  rw [r01]
  by_cases c3 : 1 ≤ a 1 ∧ a 1 ≤ 99
  case neg => exact ⟨fun h => absurd ⟨h.2.2.1, h.2.2.2.1⟩ c3, fun _ => if_neg (fun x => c3 ((i1_99 a1).mp x))⟩
  rw [if_pos ((i1_99 a1).mpr c3), c_within]
  dsimp only
  rw [r01]
  by_cases c4 : a 2 ≤ 99
  case neg => exact ⟨fun h => absurd h.2.2.2.2 c4, fun _ => if_neg (fun x => c4 ((i0_99 a2).mp x))⟩
  rw [if_pos ((i0_99 a2).mpr c4)]
  refine ⟨fun _ => ?_, fun h => absurd ⟨c1, c2, c3.1, c3.2, c4⟩ h⟩
  rw [p4, inB_t c1 (by omega), if_pos rfl, nI_clamp (by omega), up2_i J _ (by omega : q ≠ q + 10), p4, inB_t c1 (by omega), if_pos rfl, nI_clamp (by omega), up2_i _ _ (by omega : q ≠ q + 11), up2_i _ _ (by omega : q ≠ q + 10), p4, inB_t c1 (by omega), if_pos rfl, nI_clamp (by omega), up2_i _ _ (by omega : q ≠ q + 12), up2_i _ _ (by omega : q ≠ q + 11), up2_i _ _ (by omega : q ≠ q + 10), p4, nI_1]
  refine ⟨_, rfl, ?_, fun id hid => ?_⟩
  · unfold PlC
    rw [adC_o (f := 0) (by omega), adC_o (f := 1) (by omega), adC_o (f := 2) (by omega), adC_o (f := 3) (by omega), adC_o (f := 4) (by omega), adC_o (f := 5) (by omega), adC_o (f := 6) (by omega), adC_o (f := 7) (by omega), adC_o (f := 8) (by omega), adC_o (f := 15) (by omega), adC_o (f := 16) (by omega), adC_11]
    have ex : ∀ id, id ≠ q → id ≠ q + 10 → id ≠ q + 11 → id ≠ q + 12 → up2 (up2 (up2 (up2 J (q + 10) (π 11 0) (nI (a 0))) (q + 11) (π 11 0) (nI (a 1))) (q + 12) (π 11 0) (nI (a 2))) q 11 (nI (π 11 0 + 1)) id = J id := fun id i1 i2 i3 i4 => by rw [up2_i _ _ i1, up2_i _ _ i4, up2_i _ _ i3, up2_i _ _ i2]
    have eq : ∀ j, j ≠ 11 → up2 (up2 (up2 (up2 J (q + 10) (π 11 0) (nI (a 0))) (q + 11) (π 11 0) (nI (a 1))) (q + 12) (π 11 0) (nI (a 2))) q 11 (nI (π 11 0 + 1)) q j = J q j := fun j hj => by rw [up2_j _ _ hj, up2_i _ _ (by omega), up2_i _ _ (by omega), up2_i _ _ (by omega)]
    refine ⟨by rw [eq _ (by omega)]; exact p1, fun i hi => ?_, by rw [eq _ (by omega)]; exact p3, up2_s _ _ _ _, fun k hk => ?_, by rw [eq _ (by omega)]; exact p6, by rw [eq _ (by omega)]; exact p7⟩
    · rw [ex _ (by omega) (by omega) (by omega) (by omega), ex _ (by omega) (by omega) (by omega) (by omega), ex _ (by omega) (by omega) (by omega) (by omega), ex _ (by omega) (by omega) (by omega) (by omega), ex _ (by omega) (by omega) (by omega) (by omega), ex _ (by omega) (by omega) (by omega) (by omega), ex _ (by omega) (by omega) (by omega) (by omega), ex _ (by omega) (by omega) (by omega) (by omega), tmk_congr (π := π) (π 8 0) (fun j _ => ⟨by rw [adC_o (f := 9) (by omega)], by rw [adC_o (f := 10) (by omega)]⟩)]
      exact p2 i hi
    · rw [adC_12, adC_13, adC_14]
      by_cases c : k = π 11 0
      · rw [if_pos c, if_pos c, if_pos c, c]
        refine ⟨?_, ?_, ?_⟩
        · rw [up2_i _ _ (by omega), up2_i _ _ (by omega), up2_i _ _ (by omega), up2_s]
        · rw [up2_i _ _ (by omega), up2_i _ _ (by omega), up2_s]
        · rw [up2_i _ _ (by omega), up2_s]
      · rw [if_neg c, if_neg c, if_neg c]
        obtain ⟨w1, w2, w3⟩ := p5 k (by omega)
        refine ⟨?_, ?_, ?_⟩
        · rw [up2_i _ _ (by omega), up2_i _ _ (by omega), up2_i _ _ (by omega), up2_j _ _ c]; exact w1
        · rw [up2_i _ _ (by omega), up2_i _ _ (by omega), up2_j _ _ c, up2_i _ _ (by omega)]; exact w2
        · rw [up2_i _ _ (by omega), up2_j _ _ c, up2_i _ _ (by omega), up2_i _ _ (by omega)]; exact w3
  · rw [up2_i _ _ (by omega), up2_i _ _ (by omega), up2_i _ _ (by omega), up2_i _ _ (by omega)]
theorem c_addT {n q : Nat} {π : Pln} {a : Nat → Nat} {J : IH} (hv : PVd π) (ha : ∀ j, a j ≤ 999) (hP : PlC J q π) :
    (okT π a → ∃ K, g_X2_addTie n q (nI (a 0)) (nI (a 1)) J = some (1, K) ∧ PlC K q (adT π a) ∧ frC q J K) ∧ (¬ okT π a → g_X2_addTie n q (nI (a 0)) (nI (a 1)) J = some (0, J)) := by
  have v1 := hv.1
  have v3 := hv.2.2.1
  have a0 := ha 0
  have a1 := ha 1
  obtain ⟨p1, p2, p3, p4, p5, p6, p7⟩ := hP
  simp only [g_X2_addTie, bnd_eq]
  rw [p3, li8]
  by_cases c1 : π 8 0 < 8
  case neg => exact ⟨fun h => absurd h.1 c1, fun _ => if_pos (nI_le (by omega) (by omega))⟩
  rw [if_neg (nI_ge c1 (by omega)), c_isTold, p1]
  dsimp only
  rw [r01]
  by_cases c2 : a 0 < π 0 0
  case neg => exact ⟨fun h => absurd h.2.1 c2, fun _ => if_neg (fun x => c2 ((le_pred (by omega) (by omega)).mp x))⟩
  rw [if_pos ((le_pred (by omega) (by omega)).mpr c2), c_isTold, p1]
  dsimp only
  rw [r01]
  by_cases c3 : a 1 < π 0 0
  case neg => exact ⟨fun h => absurd h.2.2.1 c3, fun _ => if_neg (fun x => c3 ((le_pred (by omega) (by omega)).mp x))⟩
  rw [if_pos ((le_pred (by omega) (by omega)).mpr c3)]
  by_cases c4 : a 0 = a 1
  case pos => exact ⟨fun h => absurd c4 h.2.2.2, fun _ => if_pos (by rw [c4])⟩
  rw [if_neg (fun x => c4 ((nI_eq (by omega) (by omega)).mp x))]
  refine ⟨fun _ => ?_, fun h => absurd ⟨c1, c2, c3, c4⟩ h⟩
  have t0 := (p2 _ c2).2.2.2.2.2.2.2.2.2
  rw [inB_t (by omega : a 0 < 8) (by omega), if_pos rfl, if_pos rfl, nI_clamp (by omega), up2_i _ _ (by omega : q ≠ q + 8), p3, nI_1, t0, nI_pow (by omega), nI_or]
  refine ⟨_, rfl, ?_, fun id hid => ?_⟩
  · unfold PlC
    rw [adT_o (f := 0) (by omega), adT_o (f := 1) (by omega), adT_o (f := 2) (by omega), adT_o (f := 3) (by omega), adT_o (f := 4) (by omega), adT_o (f := 5) (by omega), adT_o (f := 6) (by omega), adT_o (f := 7) (by omega), adT_o (f := 11) (by omega), adT_o (f := 12) (by omega), adT_o (f := 13) (by omega), adT_o (f := 14) (by omega), adT_o (f := 15) (by omega), adT_o (f := 16) (by omega), adT_8]
    have ex : ∀ id, id ≠ q → id ≠ q + 8 → up2 (up2 J (q + 8) (a 0) (nI (tmk π (a 0) (π 8 0) ||| 2 ^ a 1))) q 8 (nI (π 8 0 + 1)) id = J id := fun id i1 i2 => by rw [up2_i _ _ i1, up2_i _ _ i2]
    have eq : ∀ j, j ≠ 8 → up2 (up2 J (q + 8) (a 0) (nI (tmk π (a 0) (π 8 0) ||| 2 ^ a 1))) q 8 (nI (π 8 0 + 1)) q j = J q j := fun j hj => by rw [up2_j _ _ hj, up2_i _ _ (by omega)]
    refine ⟨by rw [eq _ (by omega)]; exact p1, fun i hi => ?_, up2_s _ _ _ _, by rw [eq _ (by omega)]; exact p4, fun k hk => ?_, by rw [eq _ (by omega)]; exact p6, by rw [eq _ (by omega)]; exact p7⟩
    · rw [ex _ (by omega) (by omega), ex _ (by omega) (by omega), ex _ (by omega) (by omega), ex _ (by omega) (by omega), ex _ (by omega) (by omega), ex _ (by omega) (by omega), ex _ (by omega) (by omega)]
      obtain ⟨w1, w2, w3, w4, w5, w6, w7, w8, w9, w10⟩ := p2 i hi
      refine ⟨w1, w2, w3, w4, w5, w6, w7, w8, w9, ?_⟩
      have e : tmk (adT π a) i (π 8 0 + 1) = if a 0 = i then tmk π i (π 8 0) ||| 2 ^ a 1 else tmk π i (π 8 0) := by
        show (if adT π a 9 (π 8 0) = i then tmk (adT π a) i (π 8 0) ||| 2 ^ adT π a 10 (π 8 0) else tmk (adT π a) i (π 8 0)) = _
        rw [adT_9, adT_10, if_pos rfl, if_pos rfl, tmk_congr (π := π) (π 8 0) (fun j hj => ⟨by rw [adT_9, if_neg (by omega)], by rw [adT_10, if_neg (by omega)]⟩)]
      rw [e, up2_i _ _ (by omega)]
      by_cases c : i = a 0
      · rw [c, up2_s, if_pos rfl]
      · rw [up2_j _ _ c, if_neg (fun x => c x.symm)]
        exact w10
    · rw [ex _ (by omega) (by omega), ex _ (by omega) (by omega), ex _ (by omega) (by omega)]
      exact p5 k hk
  · rw [up2_i _ _ (by omega), up2_i _ _ (by omega)]
theorem c_addP {n q : Nat} {π : Pln} {a : Nat → Nat} {J : IH} (hv : PVd π) (ha : ∀ j, a j ≤ 999) (hP : PlC J q π) :
    (okP π a → ∃ K, g_X2_setPartner n q (nI (a 0)) (nI (a 1)) J = some (1, K) ∧ PlC K q (adP π a) ∧ frC q J K) ∧ (¬ okP π a → g_X2_setPartner n q (nI (a 0)) (nI (a 1)) J = some (0, J)) := by
  have v1 := hv.1
  have a0 := ha 0
  have a1 := ha 1
  obtain ⟨p1, p2, p3, p4, p5, p6, p7⟩ := hP
  simp only [g_X2_setPartner, bnd_eq]
  rw [c_isTold, p1]
  dsimp only
  rw [r01]
  by_cases c2 : a 0 < π 0 0
  case neg => exact ⟨fun h => absurd h.1 c2, fun _ => if_neg (fun x => c2 ((le_pred (by omega) (by omega)).mp x))⟩
  rw [if_pos ((le_pred (by omega) (by omega)).mpr c2), c_isHand]
  dsimp only
  rw [r01]
  by_cases c3 : a 1 ≤ 5
  case neg => exact ⟨fun h => absurd h.2 c3, fun _ => if_neg (fun x => c3 ((i0_5 a1).mp x))⟩
  rw [if_pos ((i0_5 a1).mpr c3)]
  refine ⟨fun _ => ?_, fun h => absurd ⟨c2, c3⟩ h⟩
  rw [inB_t (by omega : a 0 < 8) (by omega), if_pos rfl, nI_clamp (by omega)]
  refine ⟨_, rfl, ?_, fun id hid => up2_i _ _ (by omega)⟩
  unfold PlC
  rw [adP_o (f := 0) (by omega), adP_o (f := 1) (by omega), adP_o (f := 2) (by omega), adP_o (f := 4) (by omega), adP_o (f := 5) (by omega), adP_o (f := 6) (by omega), adP_o (f := 7) (by omega), adP_o (f := 8) (by omega), adP_o (f := 11) (by omega), adP_o (f := 12) (by omega), adP_o (f := 13) (by omega), adP_o (f := 14) (by omega), adP_o (f := 15) (by omega), adP_o (f := 16) (by omega)]
  have ex : ∀ id, id ≠ q + 3 → up2 J (q + 3) (a 0) (nI (a 1)) id = J id := fun id i1 => up2_i _ _ i1
  refine ⟨by rw [ex _ (by omega)]; exact p1, fun i hi => ?_, by rw [ex _ (by omega)]; exact p3, by rw [ex _ (by omega)]; exact p4, fun k hk => ?_, by rw [ex _ (by omega)]; exact p6, by rw [ex _ (by omega)]; exact p7⟩
  · obtain ⟨w1, w2, w3, w4⟩ := p2 i hi
    rw [ex (q + 1) (by omega), ex (q + 2) (by omega), ex (q + 4) (by omega), ex (q + 5) (by omega), ex (q + 6) (by omega), ex (q + 7) (by omega), ex (q + 8) (by omega), tmk_congr (π := π) (π 8 0) (fun j _ => ⟨by rw [adP_o (f := 9) (by omega)], by rw [adP_o (f := 10) (by omega)]⟩)]
    refine ⟨w1, w2, ?_, w4⟩
    rw [adP_3]
    by_cases c : i = a 0
    · rw [c, up2_s, if_pos rfl]
    · rw [up2_j _ _ c, if_neg c]
      exact w3
  · rw [ex _ (by omega), ex _ (by omega), ex _ (by omega)]
    exact p5 k hk
theorem c_addR {n q : Nat} {π : Pln} {a : Nat → Nat} {J : IH} (ha : ∀ j, a j ≤ 999) (hP : PlC J q π) :
    (okR a → ∃ K, g_X2_setRisks n q (nI (a 0)) (nI (a 1)) J = some (1, K) ∧ PlC K q (adR π a) ∧ frC q J K) ∧ (¬ okR a → g_X2_setRisks n q (nI (a 0)) (nI (a 1)) J = some (0, J)) := by
  have a0 := ha 0
  have a1 := ha 1
  obtain ⟨p1, p2, p3, p4, p5, p6, p7⟩ := hP
  simp only [g_X2_setRisks, bnd_eq]
  rw [c_within]
  dsimp only
  rw [r01]
  by_cases c2 : a 0 ≤ 99
  case neg => exact ⟨fun h => absurd h.1 c2, fun _ => if_neg (fun x => c2 ((i0_99 a0).mp x))⟩
  rw [if_pos ((i0_99 a0).mpr c2), c_within]
  dsimp only
  rw [r01]
  by_cases c3 : a 1 ≤ 99
  case neg => exact ⟨fun h => absurd h.2 c3, fun _ => if_neg (fun x => c3 ((i0_99 a1).mp x))⟩
  rw [if_pos ((i0_99 a1).mpr c3)]
  refine ⟨fun _ => ⟨_, rfl, ?_, fun id hid => by rw [up2_i _ _ (by omega), up2_i _ _ (by omega)]⟩, fun h => absurd ⟨c2, c3⟩ h⟩
  unfold PlC
  rw [adR_o (f := 0) (by omega), adR_o (f := 1) (by omega), adR_o (f := 2) (by omega), adR_o (f := 3) (by omega), adR_o (f := 4) (by omega), adR_o (f := 5) (by omega), adR_o (f := 6) (by omega), adR_o (f := 7) (by omega), adR_o (f := 8) (by omega), adR_o (f := 11) (by omega), adR_o (f := 12) (by omega), adR_o (f := 13) (by omega), adR_o (f := 14) (by omega), adR_15, adR_16]
  have ex : ∀ id, id ≠ q → up2 (up2 J q 15 (nI (a 0))) q 16 (nI (a 1)) id = J id := fun id i1 => by rw [up2_i _ _ i1, up2_i _ _ i1]
  have eq : ∀ j, j < 15 → up2 (up2 J q 15 (nI (a 0))) q 16 (nI (a 1)) q j = J q j := fun j hj => by rw [up2_j _ _ (by omega), up2_j _ _ (by omega)]
  refine ⟨by rw [eq _ (by omega)]; exact p1, fun i hi => ?_, by rw [eq _ (by omega)]; exact p3, by rw [eq _ (by omega)]; exact p4, fun k hk => ?_, by rw [up2_j _ _ (by omega), up2_s], up2_s _ _ _ _⟩
  · rw [ex _ (by omega), ex _ (by omega), ex _ (by omega), ex _ (by omega), ex _ (by omega), ex _ (by omega), ex _ (by omega), ex _ (by omega), tmk_congr (π := π) (π 8 0) (fun j _ => ⟨by rw [adR_o (f := 9) (by omega)], by rw [adR_o (f := 10) (by omega)]⟩)]
    exact p2 i hi
  · rw [ex _ (by omega), ex _ (by omega), ex _ (by omega)]
    exact p5 k hk
/-- the class's cells behind a glass -/
def chG (J : IH) (q G : Nat) (a : Nat → Nat) (fl st : Nat) : IH := up2 (up2 (up2 (up2 (up2 (up2 (up2 (up2 (up2 (up2 (up2 J (q + 1) G (nI (a 0))) (q + 2) G (nI (a 3))) (q + 3) G (nI (a 1))) (q + 4) (2 * G) (nI (a 1))) (q + 4) (2 * G + 1) (nI (a 2))) (q + 5) (2 * G) (nI (a 4))) (q + 5) (2 * G + 1) (nI (a 5))) (q + 6) G (nI fl)) (q + 7) G (nI st)) (q + 8) G 0) q 0 (nI (G + 1))
theorem chG_q {J : IH} {q G : Nat} {a : Nat → Nat} {fl st j : Nat} (h : j ≠ 0) : chG J q G a fl st q j = J q j := by simp [chG, up2, h]
theorem chG_0 {J : IH} {q G : Nat} {a : Nat → Nat} {fl st : Nat} : chG J q G a fl st q 0 = nI (G + 1) := up2_s _ _ _ _
theorem chG_1 {J : IH} {q G : Nat} {a : Nat → Nat} {fl st j : Nat} : chG J q G a fl st (q + 1) j = if j = G then nI (a 0) else J (q + 1) j := by simp [chG, up2]
theorem chG_2 {J : IH} {q G : Nat} {a : Nat → Nat} {fl st j : Nat} : chG J q G a fl st (q + 2) j = if j = G then nI (a 3) else J (q + 2) j := by simp [chG, up2]
theorem chG_3 {J : IH} {q G : Nat} {a : Nat → Nat} {fl st j : Nat} : chG J q G a fl st (q + 3) j = if j = G then nI (a 1) else J (q + 3) j := by simp [chG, up2]
theorem chG_4 {J : IH} {q G : Nat} {a : Nat → Nat} {fl st j : Nat} : chG J q G a fl st (q + 4) j = if j = 2 * G + 1 then nI (a 2) else if j = 2 * G then nI (a 1) else J (q + 4) j := by simp [chG, up2]
theorem chG_5 {J : IH} {q G : Nat} {a : Nat → Nat} {fl st j : Nat} : chG J q G a fl st (q + 5) j = if j = 2 * G + 1 then nI (a 5) else if j = 2 * G then nI (a 4) else J (q + 5) j := by simp [chG, up2]
theorem chG_6 {J : IH} {q G : Nat} {a : Nat → Nat} {fl st j : Nat} : chG J q G a fl st (q + 6) j = if j = G then nI fl else J (q + 6) j := by simp [chG, up2]
theorem chG_7 {J : IH} {q G : Nat} {a : Nat → Nat} {fl st j : Nat} : chG J q G a fl st (q + 7) j = if j = G then nI st else J (q + 7) j := by simp [chG, up2]
theorem chG_8 {J : IH} {q G : Nat} {a : Nat → Nat} {fl st j : Nat} : chG J q G a fl st (q + 8) j = if j = G then 0 else J (q + 8) j := by simp [chG, up2]
theorem chG_o {J : IH} {q G : Nat} {a : Nat → Nat} {fl st id : Nat} (h : id < q ∨ q + 8 < id) : chG J q G a fl st id = J id := by
  unfold chG
  rw [up2_i _ _ (by omega), up2_i _ _ (by omega), up2_i _ _ (by omega), up2_i _ _ (by omega), up2_i _ _ (by omega), up2_i _ _ (by omega), up2_i _ _ (by omega), up2_i _ _ (by omega), up2_i _ _ (by omega), up2_i _ _ (by omega), up2_i _ _ (by omega)]
theorem chG_P {J : IH} {q : Nat} {π : Pln} {a : Nat → Nat} (hv : PVd π) (hP : PlC J q π) : PlC (chG J q (π 0 0) a (if a 0 = 3 then 2 * a 3 else a 3) (if a 0 = 1 ∨ a 0 = 3 then 0 else a 3)) q (adG π a) := by
  obtain ⟨p1, p2, p3, p4, p5, p6, p7⟩ := hP
  unfold PlC
  rw [adG_0, adG_o (f := 8) (by omega), adG_o (f := 11) (by omega), adG_o (f := 12) (by omega), adG_o (f := 13) (by omega), adG_o (f := 14) (by omega), adG_o (f := 15) (by omega), adG_o (f := 16) (by omega)]
  refine ⟨chG_0, fun i hi => ?_, by rw [chG_q (by omega)]; exact p3, by rw [chG_q (by omega)]; exact p4, fun k hk => ?_, by rw [chG_q (by omega)]; exact p6, by rw [chG_q (by omega)]; exact p7⟩
  · rw [chG_1, chG_2, chG_3, chG_4, chG_4, chG_5, chG_5, chG_6, chG_7, chG_8, adG_1, adG_2, adG_3, adG_4, adG_5, adG_6, adG_7, tmk_congr (π := π) (π 8 0) (fun j _ => ⟨by rw [adG_o (f := 9) (by omega)], by rw [adG_o (f := 10) (by omega)]⟩)]
    by_cases c : i = π 0 0
    · subst c
      simp only [if_true, if_neg (by omega : ¬ 2 * π 0 0 = 2 * π 0 0 + 1)]
      refine ⟨trivial, trivial, trivial, trivial, trivial, trivial, trivial, trivial, trivial, ?_⟩
      rw [tmk_0 _ (fun j hj => by have := (hv.2.2.2.1 j hj).1; omega)]
      rfl
    · simp only [if_neg c, if_neg (by omega : ¬ 2 * i = 2 * π 0 0 + 1), if_neg (by omega : ¬ 2 * i = 2 * π 0 0), if_neg (by omega : ¬ 2 * i + 1 = 2 * π 0 0 + 1), if_neg (by omega : ¬ 2 * i + 1 = 2 * π 0 0)]
      exact p2 i (by omega)
  · rw [chG_o (by omega), chG_o (by omega), chG_o (by omega)]
    exact p5 k hk
theorem c_addG {n q : Nat} {π : Pln} {a : Nat → Nat} {J : IH} (hv : PVd π) (ha : ∀ j, a j ≤ 999) (hP : PlC J q π) :
    (okG π a → ∃ K, g_X2_addGlass n q (nI (a 0)) (nI (a 1)) (nI (a 2)) (nI (a 3)) (nI (a 4)) (nI (a 5)) J = some (1, K) ∧ PlC K q (adG π a) ∧ frC q J K) ∧ (¬ okG π a → g_X2_addGlass n q (nI (a 0)) (nI (a 1)) (nI (a 2)) (nI (a 3)) (nI (a 4)) (nI (a 5)) J = some (0, J)) := by
  have v1 := hv.1
  have hP0 := hP
  have p1 := hP.1
  simp only [g_X2_addGlass, bnd_eq]
  rw [p1, li8]
  by_cases c1 : π 0 0 < 8
  case neg => exact ⟨fun h => absurd h.1 c1, fun _ => if_pos (nI_le (by omega) (by omega))⟩
  rw [if_neg (nI_ge c1 (by omega)), c_within]
  dsimp only
  rw [r01]
  by_cases c2 : a 0 ≤ 3
  case neg => exact ⟨fun h => absurd h.2.1 c2, fun _ => if_neg (fun x => c2 ((i0_3 (ha 0)).mp x))⟩
  rw [if_pos ((i0_3 (ha 0)).mpr c2), c_isHand]
  dsimp only
  rw [r01]
  by_cases c3 : a 1 ≤ 5
  case neg => exact ⟨fun h => absurd h.2.2.1 c3, fun _ => if_neg (fun x => c3 ((i0_5 (ha 1)).mp x))⟩
  rw [if_pos ((i0_5 (ha 1)).mpr c3), c_isHand]
  dsimp only
  rw [r01]
  by_cases c4 : a 2 ≤ 5
  case neg => exact ⟨fun h => absurd h.2.2.2.1 c4, fun _ => if_neg (fun x => c4 ((i0_5 (ha 2)).mp x))⟩
  rw [if_pos ((i0_5 (ha 2)).mpr c4), c_within]
  dsimp only
  rw [r01]
  by_cases c5 : 1 ≤ a 3 ∧ a 3 ≤ 60
  case neg => exact ⟨fun h => absurd h.2.2.2.2 c5, fun _ => if_neg (fun x => c5 ((i1_60 (ha 3)).mp x))⟩
  rw [if_pos ((i1_60 (ha 3)).mpr c5), c_within]
  dsimp only
  rw [r01, if_pos ((i0_999 (ha 4)).mpr (ha 4)), c_within]
  dsimp only
  rw [r01, if_pos ((i0_999 (ha 5)).mpr (ha 5))]
  refine ⟨fun _ => ⟨_, ?_, chG_P hv hP0, fun id hid => chG_o (by omega)⟩, fun h => absurd ⟨c1, c2, c3, c4, c5.1, c5.2⟩ h⟩
  have a0 := ha 0
  have a3 := ha 3
  have m2 : (2 : Int32) * nI (π 0 0) = nI (2 * π 0 0) := by rw [li2, pk_mul]
  have m3 : (2 : Int32) * nI (a 3) = nI (2 * a 3) := by rw [li2, pk_mul]
  have fin : ∀ fl st : Nat, g_X2_addGlass_189 n q (nI (π 0 0)) (nI st) (nI (π 0 0)) (up2 (up2 (up2 (up2 (up2 (up2 (up2 (up2 J (q + 1) (π 0 0) (nI (a 0))) (q + 2) (π 0 0) (nI (a 3))) (q + 3) (π 0 0) (nI (a 1))) (q + 4) (2 * π 0 0) (nI (a 1))) (q + 4) (2 * π 0 0 + 1) (nI (a 2))) (q + 5) (2 * π 0 0) (nI (a 4))) (q + 5) (2 * π 0 0 + 1) (nI (a 5))) (q + 6) (π 0 0) (nI fl)) = some (1, chG J q (π 0 0) a fl st) := by
    intro fl st
    simp only [g_X2_addGlass_189, bnd_eq]
    rw [inB_t c1 (by omega), if_pos rfl, if_pos rfl, nI_clamp (by omega), up2_i _ _ (by omega : q ≠ q + 8), up2_i _ _ (by omega : q ≠ q + 7), up2_i _ _ (by omega : q ≠ q + 6), up2_i _ _ (by omega : q ≠ q + 5), up2_i _ _ (by omega : q ≠ q + 5), up2_i _ _ (by omega : q ≠ q + 4), up2_i _ _ (by omega : q ≠ q + 4), up2_i _ _ (by omega : q ≠ q + 3), up2_i _ _ (by omega : q ≠ q + 2), up2_i _ _ (by omega : q ≠ q + 1), p1, nI_1]
    rfl
  have hb8 : inB (nI (π 0 0)) 8 = true := inB_t c1 (by omega)
  have hb16 : inB (nI (2 * π 0 0)) 16 = true := inB_t (by omega) (by omega)
  have hb17 : inB (nI (2 * π 0 0 + 1)) 16 = true := inB_t (by omega) (by omega)
  have hc8 : (nI (π 0 0)).toNatClampNeg = π 0 0 := nI_clamp (by omega)
  have hc16 : (nI (2 * π 0 0)).toNatClampNeg = 2 * π 0 0 := nI_clamp (by omega)
  have hc17 : (nI (2 * π 0 0 + 1)).toNatClampNeg = 2 * π 0 0 + 1 := nI_clamp (by omega)
  simp only [g_X2_addGlass_166, g_X2_addGlass_183, bnd_eq, p1, m2, m3, nI_1, hb8, hb16, hb17, hc8, hc16, hc17, ↓reduceIte]
  by_cases q3 : a 0 = 3
  · rw [if_pos (show nI (a 0) = 3 by rw [q3]; rfl), if_neg (show ¬ nI (a 0) = 1 by rw [q3]; decide), if_pos (show nI (a 0) = 3 by rw [q3]; rfl), if_pos q3, if_pos (Or.inr q3)]
    exact fin _ 0
  · rw [if_neg (show ¬ nI (a 0) = 3 from fun x => q3 ((nI_eq (by omega) (by omega : 3 < 2 ^ 31)).mp x)), if_neg q3]
    by_cases q1 : a 0 = 1
    · rw [if_pos (show nI (a 0) = 1 by rw [q1]; rfl), if_pos (Or.inl q1)]
      exact fin _ 0
    · rw [if_neg (show ¬ nI (a 0) = 1 from fun x => q1 ((nI_eq (by omega) (by omega : 1 < 2 ^ 31)).mp x)), if_neg (show ¬ nI (a 0) = 3 from fun x => q3 ((nI_eq (by omega) (by omega : 3 < 2 ^ 31)).mp x)), if_neg (by omega : ¬ (a 0 = 1 ∨ a 0 = 3))]
      exact fin _ _
