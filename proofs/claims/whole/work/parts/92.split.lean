/-! split -/
def sps (f : Nat → Nat) : Nat → Nat
  | 0 => 0
  | k + 1 => sps f k + f k
def cq (H : Nat → Nat) (T r g : Nat) : Nat := r * H g / T
def cr (H : Nat → Nat) (T r g : Nat) : Nat := r * H g % T
def mfI2 (H : Nat → Nat) (T r h g : Nat) : Nat := if cr H T r h < cr H T r g ∨ (cr H T r g = cr H T r h ∧ g < h) then 1 else 0
def cfI (H : Nat → Nat) (T r h g : Nat) : Nat := if H g = 0 then 0 else mfI2 H T r h g
theorem sps_dm {H : Nat → Nat} {T r : Nat} : ∀ k, T * sps (cq H T r) k + sps (cr H T r) k = r * sps H k := by
  intro k
  induction k with
  | zero => simp [sps]
  | succ k ih =>
    have e := Nat.div_add_mod (r * H k) T
    show T * (sps (cq H T r) k + r * H k / T) + (sps (cr H T r) k + r * H k % T) = r * (sps H k + H k)
    rw [Nat.mul_add, Nat.mul_add]
    omega
theorem sps_mono {f : Nat → Nat} {a : Nat} : ∀ d, sps f a ≤ sps f (a + d) := by
  intro d
  induction d with
  | zero => exact Nat.le_refl _
  | succ d ih => show sps f a ≤ sps f (a + d) + f (a + d); omega
theorem sps_le {f : Nat → Nat} {a b : Nat} (h : a ≤ b) : sps f a ≤ sps f b := by
  have := sps_mono (f := f) (a := a) (b - a)
  rw [show a + (b - a) = b by omega] at this
  exact this
theorem sps_q {H : Nat → Nat} {T r : Nat} (hT : sps H 6 = T) (h0 : 0 < T) {k : Nat} (hk : k ≤ 6) : sps (cq H T r) k ≤ r := by
  have h1 := sps_dm (H := H) (T := T) (r := r) 6
  have h2 := sps_le (f := cq H T r) hk
  have h3 : T * sps (cq H T r) 6 ≤ T * r := by rw [Nat.mul_comm T r, ← hT]; rw [hT]; rw [hT] at h1; omega
  have := Nat.le_of_mul_le_mul_left h3 h0
  omega
theorem sps_rest {H : Nat → Nat} {T r h : Nat} (h0 : 0 < T) (hh : cr H T r h = 0) : ∀ k, sps (cr H T r) k ≤ sps (cfI H T r h) k * T := by
  intro k
  induction k with
  | zero => simp [sps]
  | succ k ih =>
    show sps (cr H T r) k + cr H T r k ≤ (sps (cfI H T r h) k + cfI H T r h k) * T
    rw [Nat.add_mul]
    have hlt : cr H T r k < T := Nat.mod_lt _ h0
    by_cases c : cr H T r k = 0
    · rw [c]
      have : 0 ≤ cfI H T r h k * T := Nat.zero_le _
      omega
    · have e : cfI H T r h k = 1 := by
        unfold cfI
        rw [if_neg]
        · unfold mfI2
          rw [if_pos]
          left
          omega
        · intro q
          apply c
          unfold cr
          rw [q, Nat.mul_zero, Nat.zero_mod]
      rw [e, Nat.one_mul]
      omega
theorem sps_same {H : Nat → Nat} {T r h : Nat} (hh : cr H T r h ≠ 0) : ∀ k, sps (cfI H T r h) k = sps (mfI2 H T r h) k := by
  intro k
  induction k with
  | zero => rfl
  | succ k ih =>
    show sps (cfI H T r h) k + cfI H T r h k = sps (mfI2 H T r h) k + mfI2 H T r h k
    rw [ih]
    congr 1
    unfold cfI
    by_cases c : H k = 0
    · rw [if_pos c]
      unfold mfI2
      have e : cr H T r k = 0 := by unfold cr; rw [c, Nat.mul_zero, Nat.zero_mod]
      rw [if_neg (by omega)]
    · rw [if_neg c]
theorem spl {H : Nat → Nat} {T r h : Nat} (hT : sps H 6 = T) (h0 : 0 < T) : (if H h = 0 then 0 else cq H T r h + (if sps (cfI H T r h) 6 < r - sps (cq H T r) 6 then 1 else 0)) = cq H T r h + (if 0 < cr H T r h ∧ sps (mfI2 H T r h) 6 < r - sps (cq H T r) 6 then 1 else 0) := by
  by_cases c : H h = 0
  · have e1 : cr H T r h = 0 := by unfold cr; rw [c, Nat.mul_zero, Nat.zero_mod]
    have e2 : cq H T r h = 0 := by unfold cq; rw [c, Nat.mul_zero, Nat.zero_div]
    rw [if_pos c, if_neg (by omega), e2]
  · rw [if_neg c]
    congr 1
    by_cases d : cr H T r h = 0
    · rw [if_neg (by omega : ¬ (0 < cr H T r h ∧ sps (mfI2 H T r h) 6 < r - sps (cq H T r) 6)), if_neg]
      have h1 := sps_dm (H := H) (T := T) (r := r) 6
      have h2 := sps_rest (H := H) h0 d 6
      have h3 := sps_q (r := r) hT h0 (Nat.le_refl 6)
      rw [hT] at h1
      have h4 : T * (r - sps (cq H T r) 6) ≤ T * sps (cfI H T r h) 6 := by
        rw [Nat.mul_sub, Nat.mul_comm T (sps (cfI H T r h) 6), Nat.mul_comm T r]
        omega
      have := Nat.le_of_mul_le_mul_left h4 h0
      omega
    · rw [sps_same d]
      by_cases e : sps (mfI2 H T r h) 6 < r - sps (cq H T r) 6
      · rw [if_pos e, if_pos ⟨by omega, e⟩]
      · rw [if_neg e, if_neg (fun q => e q.2)]
theorem cfI_le {H : Nat → Nat} {T r h g : Nat} : cfI H T r h g ≤ 1 := by
  unfold cfI mfI2
  split
  · omega
  · split <;> omega
theorem mfI_le {H : Nat → Nat} {T r h g : Nat} : mfI2 H T r h g ≤ 1 := by
  unfold mfI2
  split <;> omega
theorem sps_1 {f : Nat → Nat} (h : ∀ g, f g ≤ 1) : ∀ k, sps f k ≤ k := by
  intro k
  induction k with
  | zero => exact Nat.le_refl _
  | succ k ih => have := h k; show sps f k + f k ≤ k + 1; omega
/-- small enough for all products -/
theorem mul_bd {r a : Nat} (hr : r ≤ 9999) (ha : a ≤ 16000) : r * a ≤ 160000000 := by
  have := Nat.mul_le_mul hr ha
  omega
theorem c_comes {p n g h r T : Nat} {I : IH} {H : Nat → Nat} (hI : ∀ g, g < 6 → I 54 g = nI (H g)) (hH : ∀ g, g < 6 → H g ≤ 16000) (hr : r ≤ 9999) (h0 : 0 < T) (hT : T ≤ 96000) (hg : g < 6) (hh : h < 6) : g_X8_comesFirst n p (nI g) (nI h) (nI r) (nI T) I = some (nI (cfI H T r h g), I) := by
  have b1 := mul_bd hr (hH g hg)
  have b2 := mul_bd hr (hH h hh)
  have b3 := hH g hg
  have m1 : r * H g % T < T := Nat.mod_lt _ h0
  have m2 : r * H h % T < T := Nat.mod_lt _ h0
  simp only [g_X8_comesFirst, bnd_eq]
  rw [if_neg (nI_nle h0 (by omega)), inB_t hg (by omega), inB_t hh (by omega)]
  simp only [if_pos]
  rw [nI_clamp (by omega), nI_clamp (by omega), hI g hg, hI h hh, pk_mul, pk_mul, pk_rem (by omega) h0 (by omega), pk_rem (by omega) h0 (by omega), if_neg (nI_ne0 h0 (by omega)), if_neg (nI_ne0 h0 (by omega))]
  unfold cfI mfI2 cr
  by_cases c : H g = 0
  · rw [c, if_pos nI_0, if_pos rfl]
    rfl
  · rw [if_neg (nI_ne0 (by omega) (by omega)), if_neg c]
    by_cases d : r * H h % T < r * H g % T
    · rw [if_pos ((nI_ltI (by omega) (by omega)).mpr d), if_pos (Or.inl d)]
      rfl
    · rw [if_neg (fun q => d ((nI_ltI (by omega) (by omega)).mp q))]
      by_cases e : r * H g % T = r * H h % T
      · rw [if_pos ((nI_eq (by omega) (by omega)).mpr e)]
        by_cases f : g < h
        · rw [if_neg (nI_ge f (by omega)), if_pos (Or.inr ⟨e, f⟩)]
          rfl
        · rw [if_pos (nI_le (by omega) (by omega)), if_neg (by omega)]
          rfl
      · rw [if_neg (fun q => e ((nI_eq (by omega) (by omega)).mp q)), if_neg (by omega)]
        rfl
theorem c_split_loop {p h r T : Nat} {I : IH} {H : Nat → Nat} (hI : ∀ g, g < 6 → I 54 g = nI (H g)) (hH : ∀ g, g < 6 → H g ≤ 16000) (hr : r ≤ 9999) (h0 : 0 < T) (hT : T ≤ 96000) (hTs : sps H 6 = T) (hh : h < 6) :
    ∀ (d k n : Nat), k + d = 6 → d + 5 < n → g_X8_split_56 p n (nI r) (nI h) (nI T) (nI (r - sps (cq H T r) k)) (nI (sps (cfI H T r h) k)) (nI k) I = some (nI (cq H T r h + (if sps (cfI H T r h) 6 < r - sps (cq H T r) 6 then 1 else 0)), I) := by
  intro d
  induction d with
  | zero =>
    intro k n hk hn
    obtain ⟨n, rfl⟩ : ∃ k, n = k + 1 := ⟨n - 1, by omega⟩
    have e : k = 6 := by omega
    subst e
    have b2 := mul_bd hr (hH h hh)
    have s1 := sps_1 (f := cfI H T r h) (fun g => cfI_le) 6
    simp only [g_X8_split_56, g_X8_split_122, bnd_eq]
    rw [show (6 : Int32) = nI 6 from rfl, if_pos (nI_le (Nat.le_refl _) (by omega)), inB_t hh (by omega), if_pos rfl, nI_clamp (by omega), hI h hh, if_neg (nI_ne0 h0 (by omega)), pk_mul, pk_div (by omega) h0 (by omega)]
    by_cases c : sps (cfI H T r h) 6 < r - sps (cq H T r) 6
    · rw [if_pos c, if_neg (nI_ge c (by omega)), nI_1]
      rfl
    · rw [if_neg c, if_pos (nI_le (by omega) (by omega)), li0, nI_add]
      rfl
  | succ d ih =>
    intro k n hk hn
    obtain ⟨n, rfl⟩ : ∃ k, n = k + 1 := ⟨n - 1, by omega⟩
    have b2 := mul_bd hr (hH k (by omega))
    have r1 := ih (k + 1) n (by omega) (by omega)
    have q1 := sps_q (r := r) hTs h0 (k := k + 1) (by omega)
    have e1 : sps (cq H T r) (k + 1) = sps (cq H T r) k + r * H k / T := rfl
    have e2 : sps (cfI H T r h) (k + 1) = sps (cfI H T r h) k + cfI H T r h k := rfl
    have c1 := cfI_le (H := H) (T := T) (r := r) (h := h) (g := k)
    rw [e2] at r1
    simp only [g_X8_split_56, g_X8_split_94, bnd_eq]
    rw [show (6 : Int32) = nI 6 from rfl, if_neg (nI_ge (by omega) (by omega)), inB_t (by omega : k < 6) (by omega), if_pos rfl, nI_clamp (by omega), hI k (by omega), if_neg (nI_ne0 h0 (by omega)), pk_mul, pk_div (by omega) h0 (by omega), pk_sub (by omega), Nat.sub_sub, ← e1, c_comes hI hH hr h0 hT (by omega) hh]
    dsimp only
    rw [nI_1]
    by_cases c : cfI H T r h k = 0
    · rw [c] at r1
      rw [c, if_pos nI_0]
      exact r1
    · have c' : cfI H T r h k = 1 := by omega
      rw [c'] at r1
      rw [c', if_neg (by decide), nI_1]
      exact r1
theorem hss_tot {π : Pln} {sa : Nat → Nat} {h : Nat} : ∀ g, hss π sa h g ≤ tot sa g := by
  intro g
  induction g with
  | zero => exact Nat.le_refl _
  | succ g ih =>
    have := hlf_le π sa g
    have h1 : hso π sa h g ≤ sa (2 * g) + sa (2 * g + 1) := by
      unfold hso
      split <;> split <;> split <;> omega
    show hss π sa h g + hso π sa h g ≤ tot sa g + (sa (2 * g) + sa (2 * g + 1))
    omega
theorem hsm_sps {π : Pln} {sa : Nat → Nat} : ∀ k, hsm π sa k = sps (fun g => hss π sa g (π 0 0)) k := by
  intro k
  induction k with
  | zero => rfl
  | succ k ih => show hsm π sa k + hss π sa k (π 0 0) = sps _ k + hss π sa k (π 0 0); rw [ih]
theorem sps_bd {f : Nat → Nat} {B : Nat} (h : ∀ g, f g ≤ B) : ∀ k, sps f k ≤ k * B := by
  intro k
  induction k with
  | zero => exact Nat.zero_le _
  | succ k ih => have := h k; show sps f k + f k ≤ (k + 1) * B; rw [Nat.add_mul, Nat.one_mul]; omega
theorem m_split_sum {π : Pln} (hv : PV π) {I : IH} (hP : PlM I 0 π) {sa : Nat → Nat} {U m : Nat} (hS : ShM I 0 (π 0 0) sa U m) (hV : ShV (π 0 0) sa U m) (hB : tot sa (π 0 0) ≤ 16000) (r h : Int32) {X : Option (Int32 × IH)} (hX : ∀ n, 30 ≤ n → g_X9_split_26 n r h (lN (sps (fun g => hss π sa g (π 0 0)) 6)) 6 I = X) :
    ∀ (d k n : Nat), k + d = 6 → d + 40 ≤ n → g_X9_split_26 n r h (lN (sps (fun g => hss π sa g (π 0 0)) k)) (nI k) I = X := by
  intro d
  induction d with
  | zero =>
    intro k n hk hn
    have e : k = 6 := by omega
    subst e
    exact hX n (by omega)
  | succ d ih =>
    intro k n hk hn
    obtain ⟨n, rfl⟩ : ∃ k, n = k + 1 := ⟨n - 1, by omega⟩
    have hb := hss_tot (π := π) (sa := sa) (h := k) (π 0 0)
    simp only [g_X9_split_26, bnd_eq]
    rw [show (6 : Int32) = nI 6 from rfl, if_neg (nI_ge (by omega) (by omega)), show g_X9_hasOf n 0 (nI k) I = _ from m_has (b := 0) (n := n) (by omega) (by omega) hv hP hS hV (by omega)]
    dsimp only
    rw [nI_l (by omega), lN_add, nI_1]
    exact ih (k + 1) n (by omega) (by omega)
theorem lc0 {a : Nat} (ha : a < 2 ^ 31) : (lg_cmp (lN a) 0 ≤ 0) ↔ a = 0 := by
  rw [Int32.le_iff_lt_or_eq]
  have h0 : (0 : Int64) = lN 0 := by decide +kernel
  constructor
  · intro q
    rcases q with q | q
    · rw [cmp_neg, h0, lN_lt ha (by omega)] at q
      omega
    · by_cases c : 0 < a
      · exfalso
        have : 0 < lg_cmp (lN a) 0 := cmp_pos.mpr (by rw [h0]; exact (lN_lt (by omega) ha).mpr c)
        rw [q] at this
        exact absurd this (by decide)
      · omega
  · intro q
    right
    subst q
    decide +kernel
theorem lce {a b : Nat} (ha : a < 2 ^ 31) (hb : b < 2 ^ 31) : (lg_cmp (lN a) (lN b) = 0) ↔ a = b := by
  constructor
  · intro q
    rcases Nat.lt_trichotomy a b with c | c | c
    · have : lg_cmp (lN a) (lN b) < 0 := cmp_neg.mpr ((lN_lt ha hb).mpr c)
      rw [q] at this
      exact absurd this (by decide)
    · exact c
    · have : 0 < lg_cmp (lN a) (lN b) := cmp_pos.mpr ((lN_lt hb ha).mpr c)
      rw [q] at this
      exact absurd this (by decide)
  · intro q
    subst q
    unfold lg_cmp
    rw [if_neg (Int64.lt_irrefl), if_pos rfl]
theorem lcp {a b : Nat} (ha : a < 2 ^ 31) (hb : b < 2 ^ 31) : (0 < lg_cmp (lN a) (lN b)) ↔ b < a := by
  rw [cmp_pos, lN_lt hb ha]
theorem lcg {a b : Nat} (ha : a < 2 ^ 31) (hb : b < 2 ^ 31) : (0 ≤ lg_cmp (lN a) (lN b)) ↔ b ≤ a := by
  rw [← Int32.not_lt, cmp_neg, lN_lt ha hb]
  omega
theorem lN_ne0 {T : Nat} (h0 : 0 < T) (hT : T < 2 ^ 31) : ¬ lN T = 0 := by
  rw [show (0 : Int64) = lN 0 by decide +kernel, lN_eq hT (by omega)]
  omega
theorem m_split_loop {π : Pln} (hv : PV π) {I : IH} (hP : PlM I 0 π) {sa : Nat → Nat} {U m : Nat} (hS : ShM I 0 (π 0 0) sa U m) (hV : ShV (π 0 0) sa U m) {H : Nat → Nat} (hHe : ∀ g, H g = hss π sa g (π 0 0)) {r h T : Nat} (hH : ∀ g, H g ≤ 16000) (hr : r ≤ 9999) (h0 : 0 < T) (hT : T ≤ 96000) (hTs : sps H 6 = T) (hh : h < 6) :
    ∀ (d k n : Nat), k + d = 6 → d + 20 < n → g_X9_split_83 n (nI r) (nI h) (lN T) (lN (r - sps (cq H T r) k)) (lN (cr H T r h)) (nI (sps (mfI2 H T r h) k)) (nI k) I = some (nI (cq H T r h + (if 0 < cr H T r h ∧ sps (mfI2 H T r h) 6 < r - sps (cq H T r) 6 then 1 else 0)), I) := by
  have hm : ∀ (n g : Nat), 20 ≤ n → g < 6 → g_X9_hasOf n 0 (nI g) I = some (nI (H g), I) := fun n g hn hg => by
    rw [hHe]
    exact m_has (b := 0) (n := n) (by omega) (by omega) hv hP hS hV (by omega)
  have m2 : cr H T r h < T := Nat.mod_lt _ h0
  intro d
  induction d with
  | zero =>
    intro k n hk hn
    obtain ⟨n, rfl⟩ : ∃ k, n = k + 1 := ⟨n - 1, by omega⟩
    have e : k = 6 := by omega
    subst e
    have b2 := mul_bd hr (hH h)
    have b3 := hH h
    have s1 := sps_1 (f := mfI2 H T r h) (fun g => mfI_le) 6
    simp only [g_X9_split_83, g_X9_split_191, g_X9_split_192, bnd_eq]
    rw [show (6 : Int32) = nI 6 from rfl, if_pos (nI_le (Nat.le_refl _) (by omega)), hm n h (by omega) hh]
    dsimp only
    rw [if_neg (lN_ne0 h0 (by omega)), nI_l (by omega), nI_l (by omega), nI_l (by omega), lN_mul, pk_lDiv (by omega) h0 (by omega), lN_i]
    by_cases c : cr H T r h = 0
    · rw [if_pos ((lc0 (by omega)).mpr c), if_neg (by omega), li0, nI_add]
      rfl
    · rw [if_neg (fun q => c ((lc0 (by omega)).mp q))]
      by_cases e : sps (mfI2 H T r h) 6 < r - sps (cq H T r) 6
      · rw [if_neg (fun q => absurd ((lcg (by omega) (by omega)).mp q) (by omega)), if_pos ⟨by omega, e⟩, nI_1]
        rfl
      · rw [if_pos ((lcg (by omega) (by omega)).mpr (by omega)), if_neg (fun q => e q.2), li0, nI_add]
        rfl
  | succ d ih =>
    intro k n hk hn
    obtain ⟨n, rfl⟩ : ∃ k, n = k + 1 := ⟨n - 1, by omega⟩
    have b2 := mul_bd hr (hH k)
    have b3 := hH k
    have r1 := ih (k + 1) n (by omega) (by omega)
    have q1 := sps_q (r := r) hTs h0 (k := k + 1) (by omega)
    have e1 : sps (cq H T r) (k + 1) = sps (cq H T r) k + r * H k / T := rfl
    have e2 : sps (mfI2 H T r h) (k + 1) = sps (mfI2 H T r h) k + mfI2 H T r h k := rfl
    have m1 : r * H k % T < T := Nat.mod_lt _ h0
    rw [e2] at r1
    simp only [g_X9_split_83, g_X9_split_140, g_X9_split_144, g_X9_split_145, bnd_eq]
    rw [show (6 : Int32) = nI 6 from rfl, if_neg (nI_ge (by omega) (by omega)), hm n k (by omega) (by omega)]
    dsimp only
    rw [if_neg (lN_ne0 h0 (by omega)), if_neg (lN_ne0 h0 (by omega)), if_neg (lN_ne0 h0 (by omega)), nI_l (by omega), nI_l (by omega), lN_mul, pk_lRem (by omega) h0 (by omega), pk_lDiv (by omega) h0 (by omega), lN_sub (by omega), Nat.sub_sub, ← e1, nI_1 k]
    have x1 : mfI2 H T r h k = if cr H T r h < r * H k % T ∨ (r * H k % T = cr H T r h ∧ k < h) then 1 else 0 := rfl
    by_cases c : cr H T r h < r * H k % T
    · rw [if_pos (Or.inl c)] at x1
      rw [x1] at r1
      rw [if_pos ((lcp (by omega) (by omega)).mpr c), nI_1]
      exact r1
    · rw [if_neg (fun q => c ((lcp (by omega) (by omega)).mp q))]
      by_cases e : r * H k % T = cr H T r h
      · rw [if_pos ((lce (by omega) (by omega)).mpr e)]
        by_cases f : k < h
        · rw [if_pos (Or.inr ⟨e, f⟩)] at x1
          rw [x1] at r1
          rw [if_neg (nI_ge f (by omega)), nI_1]
          exact r1
        · rw [if_neg (by omega)] at x1
          rw [x1] at r1
          rw [if_pos (nI_le (by omega) (by omega)), li0, nI_add]
          exact r1
      · rw [if_neg (by omega)] at x1
        rw [x1] at r1
        rw [if_neg (fun q => e ((lce (by omega) (by omega)).mp q)), li0, nI_add]
        exact r1
theorem Sm_54 {p : Nat} (hp : p = 5 ∨ p = 18) {I I' : IH} (h : ∀ id, id ≠ 54 → I' id = I id) : Sm p I I' := Sm_ch hp (fun id _ _ w => h id w)
theorem o_split : op_split Inv := by
  intro p I a0 a1 h
  have h0 := h
  obtain ⟨hp, tx, hl, π, hv, pc, tu, pm, ⟨sa, U, m, sh, un⟩, z, ta, ti, ki⟩ := h
  have hG := hv.2.1
  have hV := ShI_V sh
  obtain ⟨s1, s2, s3, s4, s5⟩ := sh
  by_cases hc0 : 0 ≤ a0 ∧ a0 ≤ 9999
  case neg =>
    refine ⟨0, 0, -1, I, I, ?_, ?_, h0⟩
    · simp only [g_X8_split]
      rw [c_within]
      dsimp only
      rw [r01, if_neg hc0]
    · simp only [g_X9_split]
      rw [in_09999]
      dsimp only
      rw [r01, if_neg hc0]
  by_cases hc1 : 0 ≤ a1 ∧ a1 ≤ 5
  case neg =>
    refine ⟨0, 0, -1, I, I, ?_, ?_, h0⟩
    · simp only [g_X8_split]
      rw [c_within]
      dsimp only
      rw [r01, if_pos hc0, c_isHand]
      dsimp only
      rw [r01, if_neg hc1]
    · simp only [g_X9_split]
      rw [in_09999]
      dsimp only
      rw [r01, if_pos hc0, m_isHand]
      dsimp only
      rw [r01, if_neg hc1]
  obtain ⟨r, hr, rfl⟩ := rng_of (N := 9999) rfl (by omega) hc0
  obtain ⟨x, hx, rfl⟩ := rng_of (N := 5) rfl (by omega) hc1
  obtain ⟨J, a1, a2, a3⟩ := c_hold (n := 100) (s := 31) (by omega) hp (by omega) hv pc s4 hV
  have sm := Sm_54 hp a3
  have pm1 := Sm_PlM sm hv pm
  have s5' : ShM J 0 (π 0 0) sa U m := ShM_congr hG (fun j _ _ => by rw [a3 _ (by omega)]) (fun j _ _ => by rw [a3 _ (by omega)]) (by rw [a3 _ (by omega)]) s5
  have hH : ∀ g, (fun g => hss π sa g (π 0 0)) g ≤ 16000 := fun g => Nat.le_trans (hss_tot (π 0 0)) s3
  have hTb := sps_bd hH 6
  rw [hsm_sps] at a1
  have C : ∀ X, (if 0 < nI (sps (fun g => hss π sa g (π 0 0)) 6) then
              if inB (nI x) 6 = true then
                if J 54 (Int32.toNatClampNeg (nI x)) = 0 then
                  some (0, J)
                else
                  g_X8_split_56 p 100 (nI r) (nI x) (nI (sps (fun g => hss π sa g (π 0 0)) 6)) (nI r) 0 0 J
              else none
            else
              some ((-4), J)) = X → g_X8_split 100 p (nI r) (nI x) I = X := by
    intro X hX
    rw [← hX]
    simp only [g_X8_split, bnd_eq]
    rw [c_within]
    dsimp only
    rw [r01, if_pos hc0, c_isHand]
    dsimp only
    rw [r01, if_pos hc1, a1]
  have M : ∀ X, (∀ n, 30 ≤ n → g_X9_split_26 n (nI r) (nI x) (lN (sps (fun g => hss π sa g (π 0 0)) 6)) 6 J = X) → g_X9_split 100 (nI r) (nI x) J = X := by
    intro X hX
    simp only [g_X9_split]
    rw [in_09999]
    dsimp only
    rw [r01, if_pos hc0, m_isHand]
    dsimp only
    rw [r01, if_pos hc1]
    exact m_split_sum hv pm1 s5' hV s3 (nI r) (nI x) hX 6 0 100 (by omega) (by omega)
  by_cases ht : sps (fun g => hss π sa g (π 0 0)) 6 = 0
  · refine ⟨100, 100, -4, J, J, C _ ?_, M _ (fun n hn => ?_), Inv_Sm h0 sm⟩
    · rw [ht, if_neg (by decide)]
    · obtain ⟨n, rfl⟩ : ∃ k, n = k + 1 := ⟨n - 1, by omega⟩
      simp only [g_X9_split_26]
      rw [if_pos (by decide), ht, if_pos (by decide +kernel)]
  · refine ⟨100, 100, nI (if hss π sa x (π 0 0) = 0 then 0 else cq (fun g => hss π sa g (π 0 0)) (sps (fun g => hss π sa g (π 0 0)) 6) r x + (if sps (cfI (fun g => hss π sa g (π 0 0)) (sps (fun g => hss π sa g (π 0 0)) 6) r x) 6 < r - sps (cq (fun g => hss π sa g (π 0 0)) (sps (fun g => hss π sa g (π 0 0)) 6) r) 6 then 1 else 0)), J, J, C _ ?_, M _ (fun n hn => ?_), Inv_Sm h0 sm⟩
    · have hb := hH x
      dsimp only at hb
      rw [if_pos (by rw [li0]; exact nI_lt (by omega) (by omega)), inB_t (by omega : x < 6) (by omega), if_pos rfl, nI_clamp (by omega), a2 x (by omega)]
      by_cases c : hss π sa x (π 0 0) = 0
      · rw [c, if_pos nI_0, if_pos rfl]
        rfl
      · rw [if_neg (nI_ne0 (by omega) (by omega)), if_neg c]
        exact c_split_loop (p := p) (H := fun g => hss π sa g (π 0 0)) a2 (fun g _ => hH g) hr (by omega) (by omega) rfl (by omega) 6 0 100 (by omega) (by omega)
    · obtain ⟨n, rfl⟩ : ∃ k, n = k + 1 := ⟨n - 1, by omega⟩
      have hb := hH x
      dsimp only at hb
      have b2 := mul_bd hr hb
      have e := spl (H := fun g => hss π sa g (π 0 0)) (T := sps (fun g => hss π sa g (π 0 0)) 6) (r := r) (h := x) rfl (by omega)
      rw [e]
      simp only [g_X9_split_26, bnd_eq]
      rw [if_pos (by decide), if_neg (fun q => ht ((lce (by omega) (by omega)).mp (by exact q))), show g_X9_hasOf n 0 (nI x) J = _ from m_has (b := 0) (n := n) (by omega) (by omega) hv pm1 s5' hV (by omega)]
      dsimp only
      rw [if_neg (lN_ne0 (by omega) (by omega)), nI_l (by omega), nI_l (by omega), lN_mul, pk_lRem (by omega) (by omega) (by omega)]
      exact m_split_loop hv pm1 s5' hV (H := fun g => hss π sa g (π 0 0)) (fun g => rfl) hH hr (by omega) (by omega) rfl (by omega) 6 0 n (by omega) (by omega)
