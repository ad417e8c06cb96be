/-! run -/
def cum (π : Pln) (m i : Nat) : Nat → Nat
  | 0 => 0
  | t + 1 => cum π m i t + flw π (m + t) i
/-- sand when nobody turns -/
def nof (π : Pln) (sa : Nat → Nat) (U m : Nat) : Nat → Nat → Nat
  | 0 => sa
  | t + 1 => fal π (m + t) U (nof π sa U m t) (π 0 0)
theorem nof_up {π : Pln} {sa : Nat → Nat} {U m i : Nat} (hi : i < π 0 0) : ∀ t, nof π sa U m t (2 * i + bU U i) = sa (2 * i + bU U i) - cum π m i t := by
  have hb := bU_lt U i
  intro t
  induction t with
  | zero => exact (Nat.sub_zero _).symm
  | succ t ih =>
    show fal π (m + t) U (nof π sa U m t) (π 0 0) (2 * i + bU U i) = sa (2 * i + bU U i) - (cum π m i t + flw π (m + t) i)
    unfold fal
    rw [show (2 * i + bU U i) / 2 = i by omega, show (2 * i + bU U i) % 2 = bU U i by omega, if_pos hi, if_pos rfl]
    unfold fln
    rw [ih]
    omega
theorem nof_tot {π : Pln} {sa : Nat → Nat} {U m : Nat} : ∀ t, tot (nof π sa U m t) (π 0 0) = tot sa (π 0 0) := by
  intro t
  induction t with
  | zero => rfl
  | succ t ih =>
    show tot (fal π _ _ (nof π sa U m t) (π 0 0)) (π 0 0) = _
    rw [fal_tot, ih]
theorem flw_two {π : Pln} (hv : PV π) {i m : Nat} (hi : i < π 0 0) : 1 ≤ flw π m i + flw π (m + 1) i := by
  obtain ⟨-, -, h, -⟩ := hv
  obtain ⟨-, h1, -⟩ := h i hi
  unfold flw
  by_cases c : π 1 i = 1 ∨ π 1 i = 3
  · rw [if_pos c, if_pos c]
    by_cases d : m % 3 = 2
    · rw [if_neg (by omega : ¬ (m + 1) % 3 = 2)]
      split <;> split <;> omega
    · rw [if_neg d]
      split <;> split <;> omega
  · rw [if_neg c, if_neg c]
    omega
theorem cum_ge {π : Pln} (hv : PV π) {i m : Nat} (hi : i < π 0 0) : ∀ t, t ≤ cum π m i (2 * t) := by
  intro t
  induction t with
  | zero => exact Nat.zero_le _
  | succ t ih =>
    have := flw_two hv (m := m + 2 * t) hi
    show t + 1 ≤ cum π m i (2 * t) + flw π (m + 2 * t) i + flw π (m + (2 * t + 1)) i
    rw [show m + (2 * t + 1) = m + 2 * t + 1 by omega]
    omega
theorem cum_mono {π : Pln} {i m a : Nat} : ∀ d, cum π m i a ≤ cum π m i (a + d) := by
  intro d
  induction d with
  | zero => exact Nat.le_refl _
  | succ d ih => show cum π m i a ≤ cum π m i (a + d) + flw π (m + (a + d)) i; omega
theorem cum_bd {π : Pln} (hv : PV π) {i m : Nat} (hi : i < π 0 0) : ∀ t, cum π m i t ≤ 120 * t := by
  intro t
  induction t with
  | zero => exact Nat.le_refl _
  | succ t ih => have := flw_le hv (m := m + t) hi; show cum π m i t + flw π (m + t) i ≤ 120 * (t + 1); omega
/-- behind how many minutes each stands -/
def LPx (π : Pln) (sa : Nat → Nat) (U m : Nat) (L : Nat → Nat) : Prop := ∀ i, i < π 0 0 → sa (2 * i + bU U i) ≤ cum π m i (L i) ∧ (∀ j, j < L i → cum π m i j < sa (2 * i + bU U i)) ∧ L i ≤ 40000
theorem LP_ex {π : Pln} (hv : PV π) {sa : Nat → Nat} {U m : Nat} (ht : tot sa (π 0 0) ≤ 20000) : ∃ L, LPx π sa U m L := by
  have h : ∀ i, ∃ x, i < π 0 0 → sa (2 * i + bU U i) ≤ cum π m i x ∧ (∀ j, j < x → cum π m i j < sa (2 * i + bU U i)) ∧ x ≤ 40000 := by
    intro i
    by_cases hi : i < π 0 0
    · have hb := bx_lt (U := U) hi
      have h1 := tot_ge (sa := sa) (π 0 0) hb
      have h2 := cum_ge hv (m := m) hi 20000
      obtain ⟨x, hx, hm⟩ := pk_least (fun t => sa (2 * i + bU U i) ≤ cum π m i t) ⟨2 * 20000, by omega⟩
      have hx := hx
      refine ⟨x, fun _ => ⟨hx, fun j hj => by have := hm j hj; omega, ?_⟩⟩
      by_cases c : x ≤ 40000
      · exact c
      · exfalso
        exact hm (2 * 20000) (by omega) (by omega)
    · exact ⟨0, fun q => absurd q hi⟩
  exact ⟨fun i => Classical.choose (h i), fun i hi => Classical.choose_spec (h i) hi⟩
theorem LP_std {π : Pln} {sa : Nat → Nat} {U m : Nat} {L : Nat → Nat} (hL : LPx π sa U m L) {i t : Nat} (hi : i < π 0 0) : nof π sa U m t (2 * i + bU U i) = 0 ↔ L i ≤ t := by
  obtain ⟨h1, h2, -⟩ := hL i hi
  rw [nof_up hi]
  constructor
  · intro q
    by_cases c : L i ≤ t
    · exact c
    · have := h2 t (by omega)
      omega
  · intro q
    have := cum_mono (π := π) (i := i) (m := m) (a := L i) (t - L i)
    rw [show L i + (t - L i) = t by omega] at this
    omega
theorem c_flw {q i m : Nat} {π : Pln} {I : IH} (hP : PlC I q π) (hi : i < π 0 0) : I (if m % 3 = 2 then q + 7 else q + 6) i = nI (flw π m i) := by
  obtain ⟨-, h, -⟩ := hP
  obtain ⟨-, -, -, -, -, -, -, h6, h7, -⟩ := h i hi
  unfold flw
  by_cases h3 : m % 3 = 2
  · rw [if_pos h3, h7]
    congr 1
    split <;> simp [h3]
  · rw [if_neg h3, h6]
    congr 1
    split
    next h => simp [h, h3]
    next h =>
      split <;> simp_all
theorem sub_sub3 {a b c : Nat} (ha : a < 2 ^ 30) (hb : b + c < 2 ^ 30) : nI a - nI b - nI c = nI a - nI (b + c) := by
  apply Int32.toInt_inj.1
  rw [sub_nn ha hb, pk_sub_toInt ha hb]
theorem c_left_loop {p i U m : Nat} {π : Pln} (hv : PV π) {I : IH} (hP : PlC I p π) {sa : Nat → Nat} (hS : ShC I 31 (π 0 0) sa U m) (hm : m ≤ 1000000) (ht : tot sa (π 0 0) ≤ 20000) {L : Nat → Nat} (hL : LPx π sa U m L) (hi : i < π 0 0) :
    ∀ (d k n : Nat), k + d = L i → d + 5 < n → g_X5_minutesLeft_14 31 p n (nI i) (nI (sa (2 * i + bU U i)) - nI (cum π m i k)) (nI k) I = some (nI (L i), I) := by
  have hG := hv.2.1
  obtain ⟨l1, l2, l3⟩ := hL i hi
  have h1 := tot_ge (sa := sa) (π 0 0) (bx_lt (U := U) hi)
  intro d
  induction d with
  | zero =>
    intro k n hk hn
    obtain ⟨n, rfl⟩ : ∃ k, n = k + 1 := ⟨n - 1, by omega⟩
    have e : k = L i := by omega
    subst e
    have hc := cum_bd hv (m := m) hi (L i)
    simp only [g_X5_minutesLeft_14]
    rw [if_pos]
    rw [Int32.le_iff_toInt_le, pk_sub_toInt (by omega) (by omega), show (0 : Int32).toInt = 0 from rfl]
    omega
  | succ d ih =>
    intro k n hk hn
    obtain ⟨n, rfl⟩ : ∃ k, n = k + 1 := ⟨n - 1, by omega⟩
    have hlt := l2 k (by omega)
    have hc := cum_bd hv (m := m) hi (k + 1)
    have e1 : cum π m i (k + 1) = cum π m i k + flw π (m + k) i := rfl
    have hneg : ¬ nI (sa (2 * i + bU U i)) - nI (cum π m i k) ≤ 0 := by
      rw [pk_sub (by omega)]
      exact nI_nle (by omega) (by omega)
    simp only [g_X5_minutesLeft_14, bnd_eq]
    rw [if_neg hneg, show (100000 : Int32) = nI 100000 from rfl, if_neg (nI_ge (by omega) (by omega)), hS.2.1, nI_add, c_flowIn (by omega)]
    dsimp only
    rw [inB_t (by omega : i < 8) (by omega), if_pos rfl, nI_clamp (by omega), c_flw hP hi, sub_sub3 (by omega) (by omega), nI_1, ← e1]
    exact ih (k + 1) n (by omega) (by omega)
theorem c_left {p i U m n : Nat} (hn : 40020 ≤ n) {π : Pln} (hv : PV π) {I : IH} (hP : PlC I p π) {sa : Nat → Nat} (hS : ShC I 31 (π 0 0) sa U m) (hU : U < 256) (hm : m ≤ 1000000) (ht : tot sa (π 0 0) ≤ 20000) {L : Nat → Nat} (hL : LPx π sa U m L) (hi : i < π 0 0) : g_X5_minutesLeft n 31 p (nI i) I = some (nI (L i), I) := by
  have hG := hv.2.1
  have hb := bU_lt U i
  have l3 := (hL i hi).2.2
  have r := c_left_loop hv hP hS hm ht hL hi (L i) 0 n (by omega) (by omega)
  rw [show cum π m i 0 = 0 from rfl, pk_sub (Nat.zero_le _), Nat.sub_zero] at r
  simp only [g_X5_minutesLeft, bnd_eq]
  rw [c_upperBulb hS.1 hU (by omega)]
  dsimp only
  rw [inB_t (by omega : 2 * i + bU U i < 16) (by omega), if_pos rfl, nI_clamp (by omega), hS.2.2 _ (by omega)]
  exact r
def amn (L : Nat → Nat) : Nat → Nat
  | 0 => 0
  | k + 1 => if L (amn L k) ≤ L (k + 1) then amn L k else k + 1
def mxn (L : Nat → Nat) : Nat → Nat
  | 0 => L 0
  | k + 1 => if mxn L k < L (k + 1) then L (k + 1) else mxn L k
theorem amn_p (L : Nat → Nat) : ∀ k, amn L k ≤ k ∧ (∀ j, j ≤ k → L (amn L k) ≤ L j) ∧ ∀ j, j < amn L k → L (amn L k) < L j := by
  intro k
  induction k with
  | zero => exact ⟨Nat.le_refl _, fun j hj => by rw [show j = 0 by omega]; exact Nat.le_refl _, fun j hj => absurd hj (Nat.not_lt_zero _)⟩
  | succ k ih =>
    obtain ⟨i1, i2, i3⟩ := ih
    unfold amn
    split
    · refine ⟨by omega, fun j hj => ?_, i3⟩
      by_cases c : j = k + 1
      · subst c; assumption
      · exact i2 j (by omega)
    · rename_i c
      refine ⟨Nat.le_refl _, fun j hj => ?_, fun j hj => ?_⟩
      · by_cases d : j = k + 1
        · subst d; exact Nat.le_refl _
        · have := i2 j (by omega); omega
      · have := i2 j (by omega); omega
theorem mxn_p (L : Nat → Nat) : ∀ k, (∀ j, j ≤ k → L j ≤ mxn L k) ∧ ∃ j, j ≤ k ∧ L j = mxn L k := by
  intro k
  induction k with
  | zero => exact ⟨fun j hj => by rw [show j = 0 by omega]; exact Nat.le_refl _, 0, Nat.le_refl _, rfl⟩
  | succ k ih =>
    obtain ⟨i1, j, hj, e⟩ := ih
    unfold mxn
    split
    · refine ⟨fun x hx => ?_, k + 1, Nat.le_refl _, rfl⟩
      by_cases d : x = k + 1
      · subst d; exact Nat.le_refl _
      · have := i1 x (by omega); omega
    · refine ⟨fun x hx => ?_, j, by omega, e⟩
      by_cases d : x = k + 1
      · subst d; omega
      · exact i1 x (by omega)
def rsl (v1 : Int32) (L : Nat → Nat) (k : Nat) : Int32 := if v1 = 0 then nI (amn L k) else if v1 = 1 then nI (L (amn L k)) else nI (mxn L k)
theorem c_run_loop {p U m : Nat} {π : Pln} (hv : PV π) {I : IH} (hP : PlC I p π) {sa : Nat → Nat} (hS : ShC I 31 (π 0 0) sa U m) (hU : U < 256) (hm : m ≤ 1000000) (ht : tot sa (π 0 0) ≤ 20000) {L : Nat → Nat} (hL : LPx π sa U m L) (v1 : Int32) :
    ∀ (d k n : Nat), k + 1 + d = π 0 0 → d + 40030 < n → g_X8_run_32 p n v1 (nI (amn L k)) (nI (L (amn L k))) (nI (mxn L k)) (nI (k + 1)) I = some (rsl v1 L (π 0 0 - 1), I) := by
  have hG := hv.2.1
  have hLb : ∀ j, j < π 0 0 → L j ≤ 40000 := fun j hj => (hL j hj).2.2
  intro d
  induction d with
  | zero =>
    intro k n hk hn
    obtain ⟨n, rfl⟩ : ∃ k, n = k + 1 := ⟨n - 1, by omega⟩
    simp only [g_X8_run_32]
    rw [hP.1, if_pos (nI_le (by omega) (by omega)), show π 0 0 - 1 = k by omega]
    unfold rsl
    split
    · rfl
    · split <;> rfl
  | succ d ih =>
    intro k n hk hn
    obtain ⟨n, rfl⟩ : ∃ k, n = k + 1 := ⟨n - 1, by omega⟩
    have r := ih (k + 1) n (by omega) (by omega)
    obtain ⟨a1, a2, a3⟩ := amn_p L k
    obtain ⟨b1, j, hj, b2⟩ := mxn_p L k
    have q1 := hLb (amn L k) (by omega)
    have q2 := hLb (k + 1) (by omega)
    have q3 := hLb j (by omega)
    have em : (if nI (mxn L k) < nI (L (k + 1)) then nI (L (k + 1)) else nI (mxn L k)) = nI (mxn L (k + 1)) := by
      show _ = nI (if mxn L k < L (k + 1) then L (k + 1) else mxn L k)
      by_cases c : mxn L k < L (k + 1)
      · rw [if_pos c, if_pos (nI_lt c (by omega))]
      · rw [if_neg c, if_neg (nI_nlt (by omega) (by omega))]
    simp only [g_X8_run_32, g_X8_run_71, bnd_eq]
    rw [hP.1, if_neg (nI_ge (by omega) (by omega)), c_left (by omega) hv hP hS hU hm ht hL (by omega)]
    dsimp only
    rw [em, nI_1]
    rw [show amn L (k + 1) = if L (amn L k) ≤ L (k + 1) then amn L k else k + 1 from rfl] at r
    by_cases c : L (amn L k) ≤ L (k + 1)
    · rw [if_pos c] at r
      rw [if_pos (nI_le c (by omega))]
      exact r
    · rw [if_neg c] at r
      rw [if_neg (nI_ge (by omega) (by omega))]
      exact r
theorem stn_pos {sa : Nat → Nat} {U : Nat} : ∀ g, 0 < stn sa U g ↔ ∃ i, i < g ∧ sa (2 * i + bU U i) = 0 := by
  intro g
  induction g with
  | zero => exact ⟨fun h => absurd h (Nat.lt_irrefl 0), fun ⟨i, h, _⟩ => absurd h (Nat.not_lt_zero _)⟩
  | succ g ih =>
    show 0 < stn sa U g + (if sa (2 * g + bU U g) = 0 then 1 else 0) ↔ _
    by_cases c : sa (2 * g + bU U g) = 0
    · rw [if_pos c]
      exact ⟨fun _ => ⟨g, by omega, c⟩, fun _ => by omega⟩
    · rw [if_neg c, Nat.add_zero, ih]
      constructor
      · rintro ⟨i, h1, h2⟩
        exact ⟨i, by omega, h2⟩
      · rintro ⟨i, h1, h2⟩
        refine ⟨i, ?_, h2⟩
        by_cases d : i = g
        · subst d; exact absurd h2 c
        · omega
theorem stn_full {sa : Nat → Nat} {U : Nat} : ∀ g, g ≤ stn sa U g ↔ ∀ i, i < g → sa (2 * i + bU U i) = 0 := by
  intro g
  induction g with
  | zero => exact ⟨fun _ i h => absurd h (Nat.not_lt_zero _), fun _ => Nat.zero_le _⟩
  | succ g ih =>
    have hle := stn_le sa U g
    show g + 1 ≤ stn sa U g + (if sa (2 * g + bU U g) = 0 then 1 else 0) ↔ _
    by_cases c : sa (2 * g + bU U g) = 0
    · rw [if_pos c]
      constructor
      · intro h i hi
        by_cases d : i = g
        · subst d; exact c
        · exact ih.mp (by omega) i (by omega)
      · intro h
        have := ih.mpr (fun i hi => h i (by omega))
        omega
    · rw [if_neg c]
      constructor
      · intro h; omega
      · intro h; exact absurd (h g (by omega)) c
theorem m_low {U m x : Nat} {π : Pln} (hv : PV π) {I : IH} {s : Nat → Nat} (hS : ShM I 1 (π 0 0) s U m) (hB : ∀ b, b < 2 * π 0 0 → s b ≤ 20000) (hx : x < π 0 0) (h0 : s (2 * x + bU U x) = 0) (h1 : ∀ j, j < x → s (2 * j + bU U j) ≠ 0) :
    ∀ (d k n : Nat), k + d = x → d < n → g_X9_lowestStanding_2 n (nI k) I = some (nI x, I) := by
  have hG := hv.2.1
  intro d
  induction d with
  | zero =>
    intro k n hk hn
    obtain ⟨n, rfl⟩ : ∃ k, n = k + 1 := ⟨n - 1, by omega⟩
    have e : k = x := by omega
    subst e
    have hb := bU_lt U k
    simp only [g_X9_lowestStanding_2, bnd_eq]
    rw [show g_X9_upper n 1 (nI k) I = _ from m_upper (k := 1) (by omega) (by omega) (hS.2.1 k hx) hb]
    dsimp only
    rw [inB_t (by omega : 16 * 1 + 2 * k + bU U k < 64) (by omega), if_pos rfl, nI_clamp (by omega), show 16 * 1 + 2 * k + bU U k = 16 * 1 + (2 * k + bU U k) by omega, hS.2.2 _ (by omega), h0, if_pos nI_0]
  | succ d ih =>
    intro k n hk hn
    obtain ⟨n, rfl⟩ : ∃ k, n = k + 1 := ⟨n - 1, by omega⟩
    have hb := bU_lt U k
    have hne := h1 k (by omega)
    have hbd := hB (2 * k + bU U k) (by omega)
    simp only [g_X9_lowestStanding_2, bnd_eq]
    rw [show g_X9_upper n 1 (nI k) I = _ from m_upper (k := 1) (by omega) (by omega) (hS.2.1 k (by omega)) hb]
    dsimp only
    rw [inB_t (by omega : 16 * 1 + 2 * k + bU U k < 64) (by omega), if_pos rfl, nI_clamp (by omega), show 16 * 1 + 2 * k + bU U k = 16 * 1 + (2 * k + bU U k) by omega, hS.2.2 _ (by omega), if_neg (nI_ne0 (by omega) (by omega)), nI_1]
    exact ih (k + 1) n (by omega) (by omega)
theorem m_fin {n : Nat} (v1 : Int32) (L : Nat → Nat) (k : Nat) (J : IH) : g_X9_run_85 n v1 (nI (amn L k)) (nI (L (amn L k))) (nI (mxn L k)) J = some (rsl v1 L k, J) := by
  simp only [g_X9_run_85]
  unfold rsl
  split
  · rfl
  · split <;> rfl
theorem m_rn_loop {U m : Nat} {π : Pln} (hv : PV π) {sa : Nat → Nat} (hU : U < 256) (hm : m ≤ 1000000) (ht : tot sa (π 0 0) ≤ 20000) {L : Nat → Nat} (hL : LPx π sa U m L) (v1 : Int32) {k : Nat} (hk : k + 1 = π 0 0) :
    ∀ (d t n : Nat) (J : IH), t + d = mxn L k → d + 60 < n → PlM J 0 π → ShM J 1 (π 0 0) (nof π sa U m t) U (m + t) →
    ∃ I', g_X9_run_28 n v1 (if t ≤ L (amn L k) then -4 else nI (amn L k)) (if t ≤ L (amn L k) then 0 else nI (L (amn L k))) (nI t) J = some (rsl v1 L k, I') ∧ Bk 1 J I' := by
  have hG := hv.2.1
  have hLb : ∀ j, j < π 0 0 → L j ≤ 40000 := fun j hj => (hL j hj).2.2
  obtain ⟨a1, a2, a3⟩ := amn_p L k
  obtain ⟨b1, j, hj, b2⟩ := mxn_p L k
  have q1 := hLb (amn L k) (by omega)
  have q3 := hLb j (by omega)
  have q4 := b1 (amn L k) a1
  have hV : ∀ t, t ≤ mxn L k → ShV (π 0 0) (nof π sa U m t) U (m + t) := fun t h => tV (by rw [nof_tot]; exact ht) hU (by omega)
  have low : ∀ (n : Nat) (J : IH), 9 ≤ n → ShM J 1 (π 0 0) (nof π sa U m (L (amn L k))) U (m + L (amn L k)) → g_X9_lowestStanding n J = some (nI (amn L k), J) := fun n J hn hJ => by
    simp only [g_X9_lowestStanding]
    exact m_low hv hJ (hV _ q4).2.2 (by omega) ((LP_std hL (by omega)).mpr (Nat.le_refl _)) (fun i hi q => by
      have := (LP_std hL (by omega)).mp q
      have := a3 i hi
      omega) (amn L k) 0 n (by omega) (by omega)
  intro d
  induction d with
  | zero =>
    intro t n J hd hn hP hS
    obtain ⟨n, rfl⟩ : ∃ k, n = k + 1 := ⟨n - 1, by omega⟩
    have e : t = mxn L k := by omega
    subst e
    have hf : π 0 0 ≤ stn (nof π sa U m (mxn L k)) U (π 0 0) := (stn_full _).mpr (fun i hi => (LP_std hL hi).mpr (b1 i (by omega)))
    have hs := stn_le (nof π sa U m (mxn L k)) U (π 0 0)
    refine ⟨J, ?_, Bk_refl _ _⟩
    simp only [g_X9_run_28, bnd_eq]
    rw [show g_X9_standing n 1 J = _ from m_standing (b := 1) (by omega) (by omega) hv hP.1 hS (hV _ (Nat.le_refl _))]
    dsimp only
    rw [hP.1, if_pos (nI_le hf (by omega))]
    by_cases c : mxn L k ≤ L (amn L k)
    · have e : mxn L k = L (amn L k) := by omega
      rw [if_pos c, if_pos c, if_neg (by decide), low n J (by omega) (by rw [← e]; exact hS)]
      dsimp only
      have := m_fin (n := n) v1 L k J
      rw [← e] at this
      exact this
    · rw [if_neg c, if_neg c, if_pos (nI_pos' (by omega))]
      exact m_fin v1 L k J
  | succ d ih =>
    intro t n J hd hn hP hS
    obtain ⟨n, rfl⟩ : ∃ k, n = k + 1 := ⟨n - 1, by omega⟩
    have hf : ¬ π 0 0 ≤ stn (nof π sa U m t) U (π 0 0) := fun q => by
      have := (LP_std hL (by omega)).mp ((stn_full _).mp q j (by omega))
      omega
    have hs := stn_le (nof π sa U m t) U (π 0 0)
    have hst : ∀ n, 9 ≤ n → g_X9_standing n 1 J = some (nI (stn (nof π sa U m t) U (π 0 0)), J) := fun n h => m_standing (b := 1) h (by omega) hv hP.1 hS (hV t (by omega))
    obtain ⟨J1, f1, f2, f3, f4, f5, f6⟩ := m_fal (n := n) (k := 1) (by omega) (by omega) hv (hV t (by omega)) hP hS
    obtain ⟨I', g1, g2⟩ := ih (t + 1) n J1 (by omega) (by omega) f3 f4
    refine ⟨I', ?_, Bk_trans f2 g2⟩
    simp only [g_X9_run_28, g_X9_run_62, bnd_eq]
    rw [hst n (by omega)]
    dsimp only
    rw [hP.1, if_neg (nI_ge (by omega) (by omega)), hst n (by omega)]
    dsimp only
    by_cases c : t ≤ L (amn L k)
    · rw [if_pos c, if_pos c, if_neg (by decide)]
      by_cases c2 : t + 1 ≤ L (amn L k)
      · have hz : stn (nof π sa U m t) U (π 0 0) = 0 := by
          by_cases z : stn (nof π sa U m t) U (π 0 0) = 0
          · exact z
          · obtain ⟨i, hi, h0⟩ := (stn_pos _).mp (Nat.pos_of_ne_zero z)
            have := (LP_std hL hi).mp h0
            have := a2 i (by omega)
            omega
        rw [hz, if_pos (by decide), show g_X9_fall n 1 J = some J1 from f1]
        dsimp only
        rw [if_pos c2, if_pos c2] at g1
        rw [nI_1]
        exact g1
      · have e : t = L (amn L k) := by omega
        have hp : 0 < stn (nof π sa U m t) U (π 0 0) := (stn_pos _).mpr ⟨amn L k, by omega, (LP_std hL (by omega)).mpr (by omega)⟩
        rw [if_neg (nI_nle hp (by omega)), low n J (by omega) (by rw [← e]; exact hS)]
        dsimp only
        rw [show g_X9_fall n 1 J = some J1 from f1]
        dsimp only
        rw [if_neg c2, if_neg c2, ← e] at g1
        rw [nI_1]
        exact g1
    · rw [if_neg c, if_neg c, if_pos (nI_pos' (by omega)), show g_X9_fall n 1 J = some J1 from f1]
      dsimp only
      rw [if_neg (by omega), if_neg (by omega)] at g1
      rw [nI_1]
      exact g1
theorem o_run : op_run Inv := by
  intro p I a0 h
  have h0 := h
  obtain ⟨hp, tx, hl, π, hv, pc, tu, pm, ⟨sa, U, m, ⟨s1, s2, s3, s4, s5⟩, un⟩, z, ta, ti, ki⟩ := h
  have hG := hv.2.1
  have hG1 := hv.1
  by_cases hc0 : 0 ≤ a0 ∧ a0 ≤ 2
  case neg =>
    refine ⟨0, 0, -1, I, I, ?_, ?_, h0⟩
    · simp only [g_X8_run]
      rw [c_within]
      dsimp only
      rw [r01, if_neg hc0]
    · simp only [g_X9_run]
      rw [in_02]
      dsimp only
      rw [r01, if_neg hc0]
  obtain ⟨L, hL⟩ := LP_ex hv (U := U) (m := m) (by omega : tot sa (π 0 0) ≤ 20000)
  obtain ⟨J1, a1, a2, a3, a4, a5, a6⟩ := m_copy (a := 0) (b := 1) (n := 50000) (by omega) (by omega) (by omega) (by omega) hv.2.1 s5
  have hb1 : Bk 1 I J1 := ⟨a3, a4, a5, fun j _ => by rw [a6 _ (by omega) (by omega) (by omega)], fun id h1 h2 h3 _ _ => a6 id h1 h2 h3⟩
  obtain ⟨b1, j, hj, b2⟩ := mxn_p L (π 0 0 - 1)
  have q3 := (hL j (by omega)).2.2
  obtain ⟨J2, d1, d2⟩ := m_rn_loop hv s1 s2 (by omega) hL a0 (k := π 0 0 - 1) (by omega) (mxn L (π 0 0 - 1)) 0 50000 J1 (by omega) (by omega) (Bk_PlM hb1 pm) a2
  refine ⟨50000, 50000, rsl a0 L (π 0 0 - 1), I, J2, ?_, ?_, Inv_Sm h0 (Sm_Bk hp (Bk_trans hb1 d2))⟩
  · simp only [g_X8_run]
    rw [c_within]
    dsimp only
    rw [r01, if_pos hc0, show g_X5_minutesLeft 50000 31 p 0 I = _ from c_left (i := 0) (by omega) hv pc s4 s1 s2 (by omega) hL (by omega)]
    exact c_run_loop hv pc s4 s1 s2 (by omega) hL a0 (π 0 0 - 1) 0 50000 (by omega) (by omega)
  · simp only [g_X9_run]
    rw [in_02]
    dsimp only
    rw [r01, if_pos hc0, show g_X9_copy 50000 0 1 I = some J1 from a1]
    dsimp only
    rw [if_pos (Nat.zero_le _), if_pos (Nat.zero_le _)] at d1
    exact d1
