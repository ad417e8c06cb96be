/-! stolen. -/
theorem lt_sub {a D g : Nat} (ha : a < 2 ^ 30) (hD : D < 2 ^ 30) (hg : g < 2 ^ 30) : (nI a < nI D - nI g) ↔ a + g < D := by
  have e : (nI D - nI g).toInt = (D : Int) - (g + 0 : Nat) := by
    have := sub_nn (a := D) (b := g) (c := 0) hD (by omega)
    rw [show nI D - nI g - nI 0 = nI D - nI g from Int32.sub_zero _] at this
    exact this
  rw [Int32.lt_iff_toInt_lt, e, nI_toInt (by omega)]
  omega
/-- the fewest that were counted of glass x -/
def fw (ta : Nat → Nat → Nat) (x D : Nat) : Nat → Nat
  | 0 => D
  | k + 1 => if ta k 0 = x then (if fw ta x D k ≤ ta k 2 then fw ta x D k else ta k 2) else fw ta x D k
theorem fw_le (ta : Nat → Nat → Nat) (x D : Nat) : ∀ k, fw ta x D k ≤ D := by
  intro k
  induction k with
  | zero => exact Nat.le_refl _
  | succ k ih =>
    unfold fw
    split
    · split <;> omega
    · exact ih
theorem c_missing {π : Pln} (hG : π 0 0 ≤ 8) {I : IH} {z : Nat} {ta : Nat → Nat → Nat} (ht : TaI I π z ta) {x D : Nat} (hx : x < 8) (hD : D ≤ 2000) :
    ∀ (d k n : Nat), k + d = z → d < n → g_X6_missing_5 n (nI x) (nI D) (nI (D - fw ta x D k)) (nI k) I = some (nI (D - fw ta x D z), I) := by
  obtain ⟨t1, t2, t3, t4⟩ := ht
  intro d
  induction d with
  | zero =>
    intro k n hk hn
    obtain ⟨n, rfl⟩ : ∃ k, n = k + 1 := ⟨n - 1, by omega⟩
    simp only [g_X6_missing_5]
    rw [t2, if_pos (nI_le (by omega) (by omega)), show k = z by omega]
  | succ d ih =>
    intro k n hk hn
    obtain ⟨n, rfl⟩ : ∃ k, n = k + 1 := ⟨n - 1, by omega⟩
    have r := ih (k + 1) n (by omega) (by omega)
    obtain ⟨q1, q2, q3, q4, q5, q6, -⟩ := t4 k (by omega)
    have hf := fw_le ta x D k
    simp only [g_X6_missing_5, g_X6_missing_39, bnd_eq]
    rw [t2, if_neg (nI_ge (by omega) (by omega)), inB_t (by omega : k < 12) (by omega), if_pos rfl, nI_clamp (by omega), q4, q6, if_pos rfl, nI_1]
    rw [show fw ta x D (k + 1) = if ta k 0 = x then (if fw ta x D k ≤ ta k 2 then fw ta x D k else ta k 2) else fw ta x D k from rfl] at r
    by_cases h1 : ta k 0 = x
    · rw [if_pos h1] at r
      rw [if_pos (by rw [h1])]
      by_cases h2 : fw ta x D k ≤ ta k 2
      · rw [if_pos h2] at r
        rw [if_neg (fun q => by have := (lt_sub (by omega) (by omega) (by omega)).mp q; omega)]
        exact r
      · rw [if_neg h2] at r
        rw [if_pos ((lt_sub (by omega) (by omega) (by omega)).mpr (by omega)), pk_sub (by omega)]
        exact r
    · rw [if_neg h1] at r
      rw [if_neg (fun q => h1 ((nI_eq (by omega) (by omega)).mp q))]
      exact r
theorem m_fewest {π : Pln} (hG : π 0 0 ≤ 8) {I : IH} {z : Nat} {ta : Nat → Nat → Nat} (ht : TaI I π z ta) {x D : Nat} (hx : x < 8) (hD : D ≤ 2000) :
    ∀ (d k n : Nat), k + d = z → d < n → g_X9_fewest_5 n (nI x) (nI (fw ta x D k)) (nI k) I = some (nI (fw ta x D z), I) := by
  obtain ⟨t1, t2, t3, t4⟩ := ht
  intro d
  induction d with
  | zero =>
    intro k n hk hn
    obtain ⟨n, rfl⟩ : ∃ k, n = k + 1 := ⟨n - 1, by omega⟩
    simp only [g_X9_fewest_5, bnd_eq]
    rw [t3, if_pos (nI_le (by omega) (by omega)), show k = z by omega]
  | succ d ih =>
    intro k n hk hn
    obtain ⟨n, rfl⟩ : ∃ k, n = k + 1 := ⟨n - 1, by omega⟩
    have r := ih (k + 1) n (by omega) (by omega)
    obtain ⟨q1, q2, q3, -, -, -, q4, q5, q6⟩ := t4 k (by omega)
    have hf := fw_le ta x D k
    simp only [g_X9_fewest_5, g_X9_fewest_48, g_X9_fewest_49, g_X9_fewest_71, bnd_eq]
    rw [t3, if_neg (nI_ge (by omega) (by omega)), li3, pk_mul, li2, nI_add, inB_t (by omega : 3 * k < 108) (by omega), if_pos rfl, inB_t (by omega : 3 * k + 2 < 108) (by omega), if_pos rfl, nI_clamp (by omega), nI_clamp (by omega), q4, q6, nI_1]
    rw [show fw ta x D (k + 1) = if ta k 0 = x then (if fw ta x D k ≤ ta k 2 then fw ta x D k else ta k 2) else fw ta x D k from rfl] at r
    by_cases h1 : ta k 0 = x
    · rw [if_pos h1] at r
      rw [if_pos (by rw [h1])]
      by_cases h2 : fw ta x D k ≤ ta k 2
      · rw [if_pos h2] at r
        rw [if_pos (nI_le (by omega) (by omega)), if_pos rfl]
        exact r
      · rw [if_neg h2] at r
        rw [if_neg (nI_ge (by omega) (by omega)), if_neg (by decide)]
        exact r
    · rw [if_neg h1] at r
      rw [if_neg (fun q => h1 ((nI_eq (by omega) (by omega)).mp q)), if_pos rfl]
      exact r
/-- the first minute of a loss -/
def tlm (ta : Nat → Nat → Nat) (x D : Nat) : Nat → Int32
  | 0 => -4
  | k + 1 => if ta k 0 = x then (if D ≤ ta k 2 then tlm ta x D k else if tlm ta x D k = -4 then nI (ta k 1) else if tlm ta x D k ≤ nI (ta k 1) then tlm ta x D k else nI (ta k 1)) else tlm ta x D k
theorem tlm_is {ta : Nat → Nat → Nat} {x D z : Nat} (h : ∀ k, k < z → ta k 1 ≤ 20000) : ∀ k, k ≤ z → tlm ta x D k = -4 ∨ ∃ m, m ≤ 20000 ∧ tlm ta x D k = nI m := by
  intro k
  induction k with
  | zero => intro _; exact Or.inl rfl
  | succ k ih =>
    intro hk
    have i := ih (by omega)
    have hm := h k (by omega)
    unfold tlm
    split
    · split
      · exact i
      · split
        · exact Or.inr ⟨_, hm, rfl⟩
        · split
          · exact i
          · exact Or.inr ⟨_, hm, rfl⟩
    · exact i
theorem c_till_l {π : Pln} (hG : π 0 0 ≤ 8) {I : IH} {z : Nat} {ta : Nat → Nat → Nat} (ht : TaI I π z ta) {x D : Nat} (hx : x < 8) (hD : D ≤ 2000) :
    ∀ (d k n : Nat), k + d = z → d < n → g_X6_till_6 n (nI x) (nI D) (tlm ta x D k) (nI k) I = some (tlm ta x D z, I) := by
  obtain ⟨t1, t2, t3, t4⟩ := ht
  intro d
  induction d with
  | zero =>
    intro k n hk hn
    obtain ⟨n, rfl⟩ : ∃ k, n = k + 1 := ⟨n - 1, by omega⟩
    simp only [g_X6_till_6]
    rw [t2, if_pos (nI_le (by omega) (by omega)), show k = z by omega]
  | succ d ih =>
    intro k n hk hn
    obtain ⟨n, rfl⟩ : ∃ k, n = k + 1 := ⟨n - 1, by omega⟩
    have r := ih (k + 1) n (by omega) (by omega)
    obtain ⟨q1, q2, q3, q4, q5, q6, -⟩ := t4 k (by omega)
    simp only [g_X6_till_6, g_X6_till_62, g_X6_till_54, bnd_eq]
    rw [t2, if_neg (nI_ge (by omega) (by omega)), inB_t (by omega : k < 12) (by omega)]
    simp only [if_pos]
    rw [nI_clamp (by omega), q4, q5, q6, nI_1]
    rw [show tlm ta x D (k + 1) = if ta k 0 = x then (if D ≤ ta k 2 then tlm ta x D k else if tlm ta x D k = -4 then nI (ta k 1) else if tlm ta x D k ≤ nI (ta k 1) then tlm ta x D k else nI (ta k 1)) else tlm ta x D k from rfl] at r
    by_cases h1 : ta k 0 = x
    · rw [if_pos h1] at r
      rw [if_pos (by rw [h1])]
      by_cases h2 : D ≤ ta k 2
      · rw [if_pos h2] at r
        rw [if_pos (nI_le h2 (by omega))]
        exact r
      · rw [if_neg h2] at r
        rw [if_neg (nI_ge (by omega) (by omega))]
        by_cases h3 : tlm ta x D k = -4
        · rw [if_pos h3] at r
          rw [if_pos h3]
          exact r
        · rw [if_neg h3] at r
          rw [if_neg h3]
          by_cases h4 : tlm ta x D k ≤ nI (ta k 1)
          · rw [if_pos h4] at r
            rw [if_pos h4]
            exact r
          · rw [if_neg h4] at r
            rw [if_neg h4]
            exact r
    · rw [if_neg h1] at r
      rw [if_neg (fun q => h1 ((nI_eq (by omega) (by omega)).mp q))]
      exact r
theorem m_till_l {π : Pln} (hG : π 0 0 ≤ 8) {I : IH} {z : Nat} {ta : Nat → Nat → Nat} (ht : TaI I π z ta) {x D : Nat} (hx : x < 8) (hD : D ≤ 2000) :
    ∀ (d k n : Nat), k + d = z → d < n → g_X9_till_6 n (nI x) (nI D) (tlm ta x D k) (nI k) I = some (tlm ta x D z, I) := by
  obtain ⟨t1, t2, t3, t4⟩ := ht
  intro d
  induction d with
  | zero =>
    intro k n hk hn
    obtain ⟨n, rfl⟩ : ∃ k, n = k + 1 := ⟨n - 1, by omega⟩
    simp only [g_X9_till_6, bnd_eq]
    rw [t3, if_pos (nI_le (by omega) (by omega)), show k = z by omega]
  | succ d ih =>
    intro k n hk hn
    obtain ⟨n, rfl⟩ : ∃ k, n = k + 1 := ⟨n - 1, by omega⟩
    have r := ih (k + 1) n (by omega) (by omega)
    have is := tlm_is (x := x) (D := D) (fun k hk => (t4 k hk).2.1) k (by omega)
    obtain ⟨q1, q2, q3, -, -, -, q4, q5, q6⟩ := t4 k (by omega)
    simp only [g_X9_till_6, g_X9_till_49, g_X9_till_50, g_X9_till_76, g_X9_till_90, g_X9_till_91, bnd_eq]
    rw [t3, if_neg (nI_ge (by omega) (by omega)), li3, pk_mul, li2, nI_add, li1, nI_add, nI_add, inB_t (by omega : 3 * k < 108) (by omega), inB_t (by omega : 3 * k + 1 < 108) (by omega), inB_t (by omega : 3 * k + 2 < 108) (by omega)]
    simp only [if_pos]
    rw [nI_clamp (by omega), nI_clamp (by omega), nI_clamp (by omega), q4, q5, q6]
    rw [show tlm ta x D (k + 1) = if ta k 0 = x then (if D ≤ ta k 2 then tlm ta x D k else if tlm ta x D k = -4 then nI (ta k 1) else if tlm ta x D k ≤ nI (ta k 1) then tlm ta x D k else nI (ta k 1)) else tlm ta x D k from rfl] at r
    by_cases h1 : ta k 0 = x
    · rw [if_pos h1] at r
      rw [if_pos (by rw [h1])]
      by_cases h2 : D ≤ ta k 2
      · rw [if_pos h2] at r
        rw [if_pos (nI_le h2 (by omega))]
        exact r
      · rw [if_neg h2] at r
        rw [if_neg (nI_ge (by omega) (by omega)), if_neg (by decide)]
        rcases is with e | ⟨m, hm, e⟩
        · rw [if_pos e] at r
          rw [if_pos (by rw [e]; decide)]
          exact r
        · have ne : ¬ tlm ta x D k = -4 := by
            rw [e]
            intro q
            have := congrArg Int32.toInt q
            rw [nI_toInt (by omega)] at this
            rw [show (-4 : Int32).toInt = -4 from rfl] at this
            omega
          rw [if_neg ne] at r
          rw [if_neg (by rw [e, li0]; exact fun q => by have := (nI_ltI (by omega) (by omega)).mp q; omega)]
          by_cases h4 : tlm ta x D k ≤ nI (ta k 1)
          · rw [if_pos h4] at r
            rw [if_pos h4]
            exact r
          · rw [if_neg h4] at r
            rw [if_neg h4]
            exact r
    · rw [if_neg h1] at r
      rw [if_neg (fun q => h1 ((nI_eq (by omega) (by omega)).mp q))]
      exact r
/-- the last minute without one -/
def snm (ta : Nat → Nat → Nat) (x D : Nat) (e : Int32) : Nat → Int32
  | 0 => -4
  | k + 1 => if ta k 0 = x then (if ta k 2 < D then snm ta x D e k else if e ≤ nI (ta k 1) then snm ta x D e k else if nI (ta k 1) ≤ snm ta x D e k then snm ta x D e k else nI (ta k 1)) else snm ta x D e k
theorem max_le (v x : Int32) : (if v < x then x else v) = if x ≤ v then v else x := by
  by_cases h : x ≤ v
  · rw [if_pos h, if_neg (Int32.not_lt.mpr h)]
  · rw [if_neg h, if_pos (Int32.not_le.mp h)]
theorem c_since_l {π : Pln} (hG : π 0 0 ≤ 8) {I : IH} {z : Nat} {ta : Nat → Nat → Nat} (ht : TaI I π z ta) {x D : Nat} (hx : x < 8) (hD : D ≤ 2000) (e : Int32) :
    ∀ (d k n : Nat), k + d = z → d < n → g_X6_since_14 n (nI x) (nI D) e (snm ta x D e k) (nI k) I = some (snm ta x D e z, I) := by
  obtain ⟨t1, t2, t3, t4⟩ := ht
  intro d
  induction d with
  | zero =>
    intro k n hk hn
    obtain ⟨n, rfl⟩ : ∃ k, n = k + 1 := ⟨n - 1, by omega⟩
    simp only [g_X6_since_14]
    rw [t2, if_pos (nI_le (by omega) (by omega)), show k = z by omega]
  | succ d ih =>
    intro k n hk hn
    obtain ⟨n, rfl⟩ : ∃ k, n = k + 1 := ⟨n - 1, by omega⟩
    have r := ih (k + 1) n (by omega) (by omega)
    obtain ⟨q1, q2, q3, q4, q5, q6, -⟩ := t4 k (by omega)
    simp only [g_X6_since_14, g_X6_since_70, bnd_eq]
    rw [t2, if_neg (nI_ge (by omega) (by omega)), inB_t (by omega : k < 12) (by omega)]
    simp only [if_pos]
    rw [nI_clamp (by omega), q4, q5, q6, nI_1, max_le]
    rw [show snm ta x D e (k + 1) = if ta k 0 = x then (if ta k 2 < D then snm ta x D e k else if e ≤ nI (ta k 1) then snm ta x D e k else if nI (ta k 1) ≤ snm ta x D e k then snm ta x D e k else nI (ta k 1)) else snm ta x D e k from rfl] at r
    by_cases h1 : ta k 0 = x
    · rw [if_pos h1] at r
      rw [if_pos (by rw [h1])]
      by_cases h2 : ta k 2 < D
      · rw [if_pos h2] at r
        rw [if_pos ((nI_ltI (by omega) (by omega)).mpr h2)]
        exact r
      · rw [if_neg h2] at r
        rw [if_neg (fun q => h2 ((nI_ltI (by omega) (by omega)).mp q))]
        by_cases h3 : e ≤ nI (ta k 1)
        · rw [if_pos h3] at r
          rw [if_pos h3]
          exact r
        · rw [if_neg h3] at r
          rw [if_neg h3]
          exact r
    · rw [if_neg h1] at r
      rw [if_neg (fun q => h1 ((nI_eq (by omega) (by omega)).mp q))]
      exact r
theorem m_since_l {π : Pln} (hG : π 0 0 ≤ 8) {I : IH} {z : Nat} {ta : Nat → Nat → Nat} (ht : TaI I π z ta) {x D : Nat} (hx : x < 8) (hD : D ≤ 2000) (e : Int32) :
    ∀ (d k n : Nat), k + d = z → d < n → g_X9_since_14 n (nI x) (nI D) e (snm ta x D e k) (nI k) I = some (snm ta x D e z, I) := by
  obtain ⟨t1, t2, t3, t4⟩ := ht
  intro d
  induction d with
  | zero =>
    intro k n hk hn
    obtain ⟨n, rfl⟩ : ∃ k, n = k + 1 := ⟨n - 1, by omega⟩
    simp only [g_X9_since_14, bnd_eq]
    rw [t3, if_pos (nI_le (by omega) (by omega)), show k = z by omega]
  | succ d ih =>
    intro k n hk hn
    obtain ⟨n, rfl⟩ : ∃ k, n = k + 1 := ⟨n - 1, by omega⟩
    have r := ih (k + 1) n (by omega) (by omega)
    obtain ⟨q1, q2, q3, -, -, -, q4, q5, q6⟩ := t4 k (by omega)
    simp only [g_X9_since_14, g_X9_since_72, g_X9_since_73, g_X9_since_110, g_X9_since_112, bnd_eq]
    rw [t3, if_neg (nI_ge (by omega) (by omega)), li3, pk_mul, li2, nI_add, li1, nI_add, nI_add, inB_t (by omega : 3 * k < 108) (by omega), inB_t (by omega : 3 * k + 1 < 108) (by omega), inB_t (by omega : 3 * k + 2 < 108) (by omega)]
    simp only [if_pos]
    rw [nI_clamp (by omega), nI_clamp (by omega), nI_clamp (by omega), q4, q5, q6]
    rw [show snm ta x D e (k + 1) = if ta k 0 = x then (if ta k 2 < D then snm ta x D e k else if e ≤ nI (ta k 1) then snm ta x D e k else if nI (ta k 1) ≤ snm ta x D e k then snm ta x D e k else nI (ta k 1)) else snm ta x D e k from rfl] at r
    by_cases h1 : ta k 0 = x
    · rw [if_pos h1] at r
      rw [if_pos (by rw [h1])]
      by_cases h2 : ta k 2 < D
      · rw [if_pos h2] at r
        rw [if_pos ((nI_ltI (by omega) (by omega)).mpr h2)]
        exact r
      · rw [if_neg h2] at r
        rw [if_neg (fun q => h2 ((nI_ltI (by omega) (by omega)).mp q))]
        by_cases h3 : e ≤ nI (ta k 1)
        · rw [if_pos h3] at r
          rw [if_pos h3]
          exact r
        · rw [if_neg h3] at r
          rw [if_neg h3, if_neg (by decide)]
          by_cases h4 : nI (ta k 1) ≤ snm ta x D e k
          · rw [if_pos h4] at r
            rw [if_pos h4]
            exact r
          · rw [if_neg h4] at r
            rw [if_neg h4]
            exact r
    · rw [if_neg h1] at r
      rw [if_neg (fun q => h1 ((nI_eq (by omega) (by omega)).mp q))]
      exact r
/-- some of the first j has fewer, earlier -/
def exc (ta : Nat → Nat → Nat) (x k : Nat) : Nat → Bool
  | 0 => false
  | j + 1 => exc ta x k j || decide (ta j 0 = x ∧ ta j 1 < ta k 1 ∧ ta j 2 < ta k 2)
theorem exc_up {ta : Nat → Nat → Nat} {x k j : Nat} (h : exc ta x k j = true) : ∀ d, exc ta x k (j + d) = true := by
  intro d
  induction d with
  | zero => exact h
  | succ d ih =>
    show (exc ta x k (j + d) || _) = true
    rw [ih]; rfl
def fo (ta : Nat → Nat → Nat) (x z : Nat) : Nat → Nat
  | 0 => 0
  | k + 1 => fo ta x z k + (if ta k 0 = x ∧ exc ta x k z = true then 1 else 0)
theorem c_exc {π : Pln} (hG : π 0 0 ≤ 8) {I : IH} {z : Nat} {ta : Nat → Nat → Nat} (ht : TaI I π z ta) {x k : Nat} (hk : k < z) (hx : ta k 0 = x) :
    ∀ (d j n : Nat), j + d = z → d < n → exc ta x k j = false → g_X6_exceedsEarlier_2 n (nI k) (nI j) I = some (if exc ta x k z = true then 1 else 0, I) := by
  obtain ⟨t1, t2, t3, t4⟩ := ht
  obtain ⟨p1, p2, p3, p4, p5, p6, -⟩ := t4 k hk
  intro d
  induction d with
  | zero =>
    intro j n hj hn he
    obtain ⟨n, rfl⟩ : ∃ k, n = k + 1 := ⟨n - 1, by omega⟩
    have e : j = z := by omega
    subst e
    simp only [g_X6_exceedsEarlier_2]
    rw [t2, if_pos (nI_le (by omega) (by omega)), if_neg (by rw [he]; decide)]
  | succ d ih =>
    intro j n hj hn he
    obtain ⟨n, rfl⟩ : ∃ k, n = k + 1 := ⟨n - 1, by omega⟩
    obtain ⟨q1, q2, q3, q4, q5, q6, -⟩ := t4 j (by omega)
    have r := ih (j + 1) n (by omega) (by omega)
    have es : exc ta x k (j + 1) = decide (ta j 0 = x ∧ ta j 1 < ta k 1 ∧ ta j 2 < ta k 2) := by
      show (exc ta x k j || _) = _
      rw [he]; rfl
    simp only [g_X6_exceedsEarlier_2, g_X6_exceedsEarlier_57, bnd_eq]
    rw [t2, if_neg (nI_ge (by omega) (by omega)), inB_t (by omega : j < 12) (by omega), inB_t (by omega : k < 12) (by omega)]
    simp only [if_pos]
    rw [nI_clamp (by omega), nI_clamp (by omega), p4, p5, p6, q4, q5, q6, hx, nI_1]
    by_cases h1 : ta j 0 = x
    · rw [if_pos (by rw [h1])]
      by_cases h2 : ta k 1 ≤ ta j 1
      · rw [if_pos (nI_le h2 (by omega))]
        exact r (by rw [es, decide_eq_false (by omega)])
      · rw [if_neg (nI_ge (by omega) (by omega))]
        by_cases h3 : ta k 2 ≤ ta j 2
        · rw [if_pos (nI_le h3 (by omega))]
          exact r (by rw [es, decide_eq_false (by omega)])
        · rw [if_neg (nI_ge (by omega) (by omega)), if_pos]
          have := exc_up (ta := ta) (x := x) (k := k) (j := j + 1) (by rw [es, decide_eq_true (by omega)]) d
          rw [show j + 1 + d = z by omega] at this
          exact this
    · rw [if_neg (fun q => h1 ((nI_eq (by omega) (by omega)).mp q))]
      exact r (by rw [es, decide_eq_false (by omega)])
theorem c_false {π : Pln} (hG : π 0 0 ≤ 8) {I : IH} {z : Nat} {ta : Nat → Nat → Nat} (ht : TaI I π z ta) {x : Nat} (hx : x < 8) :
    ∀ (d k n : Nat), k + d = z → d + 20 < n → g_X6_falseOnes_4 n (nI x) (nI (fo ta x z k)) (nI k) I = some (nI (fo ta x z z), I) := by
  have ht' := ht
  obtain ⟨t1, t2, t3, t4⟩ := ht
  intro d
  induction d with
  | zero =>
    intro k n hk hn
    obtain ⟨n, rfl⟩ : ∃ k, n = k + 1 := ⟨n - 1, by omega⟩
    simp only [g_X6_falseOnes_4]
    rw [t2, if_pos (nI_le (by omega) (by omega)), show k = z by omega]
  | succ d ih =>
    intro k n hk hn
    obtain ⟨n, rfl⟩ : ∃ k, n = k + 1 := ⟨n - 1, by omega⟩
    obtain ⟨q1, q2, q3, q4, q5, q6, -⟩ := t4 k (by omega)
    have r := ih (k + 1) n (by omega) (by omega)
    rw [show fo ta x z (k + 1) = fo ta x z k + (if ta k 0 = x ∧ exc ta x k z = true then 1 else 0) from rfl] at r
    simp only [g_X6_falseOnes_4, g_X6_falseOnes_33, g_X6_exceedsEarlier, bnd_eq]
    rw [t2, if_neg (nI_ge (by omega) (by omega)), inB_t (by omega : k < 12) (by omega), if_pos rfl, nI_clamp (by omega), q4]
    by_cases h1 : ta k 0 = x
    · rw [if_pos (by rw [h1]), show (g_X6_exceedsEarlier_2 n (nI k) 0 I) = _ from c_exc hG ht' (by omega) h1 z 0 n (by omega) (by omega) rfl]
      dsimp only
      by_cases h2 : exc ta x k z = true
      · rw [if_pos ⟨h1, h2⟩] at r
        rw [if_pos h2, if_neg (by decide), nI_1, nI_1]
        exact r
      · rw [if_neg (fun q => h2 q.2)] at r
        rw [if_neg h2, if_pos rfl, nI_1]
        exact r
    · rw [if_neg (fun q => h1 q.1)] at r
      rw [if_neg (fun q => h1 ((nI_eq (by omega) (by omega)).mp q)), nI_1]
      exact r
theorem m_exc {π : Pln} (hG : π 0 0 ≤ 8) {I : IH} {z : Nat} {ta : Nat → Nat → Nat} (ht : TaI I π z ta) {x k f : Nat} (hk : k < z) (hx : x < 8) {K : Int32 → Int32 → Int32 → IH → Option (Int32 × IH)} :
    ∀ (d j n : Nat), j + d = z → d < n → g_X9_falseOnes_20 K n (nI x) (nI f) (nI k) (if exc ta x k j = true then 1 else 0) (nI j) I = K (nI x) (nI (f + (if ta k 0 = x ∧ exc ta x k z = true then 1 else 0))) (nI (k + 1)) I := by
  obtain ⟨t1, t2, t3, t4⟩ := ht
  obtain ⟨p1, p2, p3, -, -, -, p4, p5, p6⟩ := t4 k hk
  intro d
  induction d with
  | zero =>
    intro j n hj hn
    obtain ⟨n, rfl⟩ : ∃ k, n = k + 1 := ⟨n - 1, by omega⟩
    have e : j = z := by omega
    subst e
    simp only [g_X9_falseOnes_20, g_X9_falseOnes_132, g_X9_falseOnes_133, bnd_eq]
    rw [t3, if_pos (nI_le (by omega) (by omega)), li3, pk_mul, inB_t (by omega : 3 * k < 108) (by omega), if_pos rfl, nI_clamp (by omega), p4, nI_1]
    by_cases h1 : ta k 0 = x
    · rw [if_pos (by rw [h1])]
      by_cases h2 : exc ta x k j = true
      · rw [if_pos h2, if_neg (show ¬ ((1 : Int32) = 0) by decide), if_pos ⟨h1, h2⟩, nI_1]
      · rw [if_neg h2, if_pos (show (0 : Int32) = 0 from rfl), if_neg (fun q => h2 q.2), li0, nI_add]
    · rw [if_neg (fun q => h1 ((nI_eq (by omega) (by omega)).mp q)), if_neg (fun q => h1 q.1), li0, nI_add]
  | succ d ih =>
    intro j n hj hn
    obtain ⟨n, rfl⟩ : ∃ k, n = k + 1 := ⟨n - 1, by omega⟩
    obtain ⟨q1, q2, q3, -, -, -, q4, q5, q6⟩ := t4 j (by omega)
    have r := ih (j + 1) n (by omega) (by omega)
    have es : exc ta x k (j + 1) = (exc ta x k j || decide (ta j 0 = x ∧ ta j 1 < ta k 1 ∧ ta j 2 < ta k 2)) := rfl
    rw [es] at r
    simp only [g_X9_falseOnes_20, g_X9_falseOnes_97, g_X9_falseOnes_101, g_X9_falseOnes_102, bnd_eq]
    rw [t3, if_neg (nI_ge (by omega) (by omega)), li3, pk_mul, pk_mul, li2, nI_add, nI_add, li1, nI_add, nI_add, nI_add, inB_t (by omega : 3 * j < 108) (by omega), inB_t (by omega : 3 * j + 1 < 108) (by omega), inB_t (by omega : 3 * j + 2 < 108) (by omega), inB_t (by omega : 3 * k + 1 < 108) (by omega), inB_t (by omega : 3 * k + 2 < 108) (by omega)]
    simp only [if_pos]
    rw [nI_clamp (by omega : 3 * j < 2 ^ 31), nI_clamp (by omega : 3 * j + 1 < 2 ^ 31), nI_clamp (by omega : 3 * k + 1 < 2 ^ 31), nI_clamp (by omega : 3 * j + 2 < 2 ^ 31), nI_clamp (by omega : 3 * k + 2 < 2 ^ 31), p5, p6, q4, q5, q6]
    by_cases h0 : exc ta x k j = true
    · rw [h0, Bool.true_or, if_pos rfl] at r
      rw [if_pos h0, if_neg (by decide)]
      exact r
    · rw [Bool.eq_false_iff.mpr h0, Bool.false_or] at r
      rw [if_neg h0, if_pos (by decide)]
      by_cases h1 : ta j 0 = x
      · rw [if_pos (by rw [h1])]
        by_cases h2 : ta k 1 ≤ ta j 1
        · rw [decide_eq_false (by omega), if_neg (by decide)] at r
          rw [if_pos (nI_le h2 (by omega))]
          exact r
        · rw [if_neg (nI_ge (by omega) (by omega))]
          by_cases h3 : ta k 2 ≤ ta j 2
          · rw [decide_eq_false (by omega), if_neg (by decide)] at r
            rw [if_pos (nI_le h3 (by omega))]
            exact r
          · rw [decide_eq_true (by omega), if_pos rfl] at r
            rw [if_neg (nI_ge (by omega) (by omega))]
            exact r
      · rw [decide_eq_false (by omega), if_neg (by decide)] at r
        rw [if_neg (fun q => h1 ((nI_eq (by omega) (by omega)).mp q))]
        exact r
theorem m_false {π : Pln} (hG : π 0 0 ≤ 8) {I : IH} {z : Nat} {ta : Nat → Nat → Nat} (ht : TaI I π z ta) {x : Nat} (hx : x < 8) :
    ∀ (d k n : Nat), k + d = z → d + 20 < n → g_X9_falseOnes_4 n (nI x) (nI (fo ta x z k)) (nI k) I = some (nI (fo ta x z z), I) := by
  have ht' := ht
  obtain ⟨t1, t2, t3, t4⟩ := ht
  intro d
  induction d with
  | zero =>
    intro k n hk hn
    obtain ⟨n, rfl⟩ : ∃ k, n = k + 1 := ⟨n - 1, by omega⟩
    simp only [g_X9_falseOnes_4, bnd_eq]
    rw [t3, if_pos (nI_le (by omega) (by omega)), show k = z by omega]
  | succ d ih =>
    intro k n hk hn
    obtain ⟨n, rfl⟩ : ∃ k, n = k + 1 := ⟨n - 1, by omega⟩
    simp only [g_X9_falseOnes_4, bnd_eq]
    rw [t3, if_neg (nI_ge (by omega) (by omega))]
    have e := m_exc hG ht' (k := k) (f := fo ta x z k) (K := g_X9_falseOnes_4 n) (by omega) hx z 0 n (by omega) (by omega)
    rw [show (if exc ta x k 0 = true then (1 : Int32) else 0) = 0 from rfl] at e
    rw [show (0 : Int32) = nI 0 from rfl] at e ⊢
    rw [e]
    exact ih (k + 1) n (by omega) (by omega)
theorem o_stolen : op_stolen Inv := by
  intro p I a0 a1 h
  have h0 := h
  obtain ⟨hp, tx, hl, π, hv, pc, tu, pm, ⟨sa, U, m, sh, un⟩, z, ta, ti, ki⟩ := h
  have hG1 := hv.1
  have hG := hv.2.1
  have bad : ∀ (r : Int32), g_X8_stolen 100 p a0 a1 I = some (r, I) → g_X9_stolen 100 a0 a1 I = some (r, I) → ∃ (n1 n2 : Nat) (r : Int32) (I1 I2 : IH), g_X8_stolen n1 p a0 a1 I = some (r, I1) ∧ g_X9_stolen n2 a0 a1 I1 = some (r, I2) ∧ Inv p I2 := fun r q1 q2 => ⟨100, 100, r, I, I, q1, q2, h0⟩
  by_cases hc : 0 ≤ a0 ∧ a0 ≤ nI (π 0 0) - 1
  case neg =>
    refine bad (-1) ?_ ?_
    · simp only [g_X8_stolen]
      rw [c_isGlass, pc.1]
      dsimp only
      rw [r01, if_neg hc]
    · simp only [g_X9_stolen]
      rw [m_isGlass, pm.1]
      dsimp only
      rw [r01, if_neg hc]
  obtain ⟨x, hx, rfl⟩ := gl_of hG1 hG hc
  have c1 := pc.2.1 x hx
  have m1 := pm.2.1 x hx
  simp only [Nat.mul_zero, Nat.zero_add] at m1
  obtain ⟨D, hD⟩ : ∃ D, D = π 6 x + π 7 x := ⟨_, rfl⟩
  have hD2 : D ≤ 2000 := by have := (hv.2.2.1 x hx); omega
  have hz : z ≤ 12 := ti.1
  have C : g_X8_stolen 100 p (nI x) a1 I = if a1 = 0 then (match g_X6_missing 100 (nI x) (nI D) I with | none => none | some (r15, J14) => some (r15, J14)) else if a1 = 1 then (match g_X6_till 100 (nI x) (nI D) I with | none => none | some (r15, J14) => some (r15, J14)) else if a1 = 2 then (match g_X6_since 100 (nI x) (nI D) I with | none => none | some (r15, J14) => some (r15, J14)) else if a1 = 3 then (match g_X6_falseOnes 100 (nI x) I with | none => none | some (r15, J14) => some (r15, J14)) else some (-1, I) := by
    simp only [g_X8_stolen, bnd_eq]
    rw [c_isGlass, pc.1]
    dsimp only
    rw [r01, if_pos hc, li2, pk_mul, nI_1, inB_t (by omega : 2 * x < 16) (by omega), if_pos rfl, inB_t (by omega : 2 * x + 1 < 16) (by omega), if_pos rfl, nI_clamp (by omega), nI_clamp (by omega), c1.2.2.2.2.2.1, c1.2.2.2.2.2.2.1, nI_add, ← hD]
    rfl
  by_cases hw : 0 ≤ a1 ∧ a1 ≤ 3
  case neg =>
    have ne : ∀ c : Int32, 0 ≤ c ∧ c ≤ 3 → ¬ a1 = c := fun c q e => hw (e ▸ q)
    refine bad (-1) ?_ ?_
    · rw [C, if_neg (ne 0 (by decide)), if_neg (ne 1 (by decide)), if_neg (ne 2 (by decide)), if_neg (ne 3 (by decide))]
    · simp only [g_X9_stolen]
      rw [m_isGlass, pm.1]
      dsimp only
      rw [r01, if_pos hc, in_03]
      dsimp only
      rw [r01, if_neg hw]
  have M : g_X9_stolen 100 (nI x) a1 I = if a1 = 0 then (match g_X9_fewest 100 (nI x) (nI D) I with | none => none | some (r15, J14) => some (nI D - r15, J14)) else if a1 = 1 then (match g_X9_till 100 (nI x) (nI D) I with | none => none | some (r15, J14) => some (r15, J14)) else if a1 = 2 then (match g_X9_since 100 (nI x) (nI D) I with | none => none | some (r15, J14) => some (r15, J14)) else (match g_X9_falseOnes 100 (nI x) I with | none => none | some (r15, J14) => some (r15, J14)) := by
    simp only [g_X9_stolen, bnd_eq]
    rw [m_isGlass, pm.1]
    dsimp only
    rw [r01, if_pos hc, in_03]
    dsimp only
    rw [r01, if_pos hw, inB_t (by omega : x < 16) (by omega), if_pos rfl, if_pos rfl, nI_clamp (by omega), m1.2.2.2.2.2.1, m1.2.2.2.2.2.2, nI_add, ← hD]
    rfl
  have ct : g_X6_till 100 (nI x) (nI D) I = some (tlm ta x D z, I) := by
    simp only [g_X6_till]
    exact c_till_l hG ti (by omega) hD2 z 0 100 (by omega) (by omega)
  have mt : g_X9_till 100 (nI x) (nI D) I = some (tlm ta x D z, I) := by
    simp only [g_X9_till]
    exact m_till_l hG ti (by omega) hD2 z 0 100 (by omega) (by omega)
  obtain ⟨y, hy, rfl⟩ := rng_of (N := 3) rfl (by omega) hw
  rcases (by omega : y = 0 ∨ y = 1 ∨ y = 2 ∨ y = 3) with e | e | e | e <;> subst e
  · refine bad (nI (D - fw ta x D z)) ?_ ?_
    · rw [C, if_pos (by rfl)]
      simp only [g_X6_missing]
      have := c_missing hG ti (D := D) (x := x) (by omega) hD2 z 0 100 (by omega) (by omega)
      rw [show nI (D - fw ta x D 0) = 0 from by rw [show fw ta x D 0 = D from rfl, Nat.sub_self]; rfl, show nI 0 = 0 from rfl] at this
      rw [this]
    · rw [M, if_pos (by rfl)]
      simp only [g_X9_fewest]
      have := m_fewest hG ti (D := D) (x := x) (by omega) hD2 z 0 100 (by omega) (by omega)
      rw [show fw ta x D 0 = D from rfl, show nI 0 = 0 from rfl] at this
      rw [this]
      dsimp only
      rw [pk_sub (fw_le _ _ _ _)]
  · refine bad (tlm ta x D z) ?_ ?_
    · rw [C, if_neg (by decide), if_pos (by rfl), ct]
    · rw [M, if_neg (by decide), if_pos (by rfl), mt]
  · refine bad (snm ta x D (tlm ta x D z) z) ?_ ?_
    · rw [C, if_neg (by decide), if_neg (by decide), if_pos (by rfl)]
      simp only [g_X6_since]
      rw [ct]
      dsimp only
      rw [show g_X6_since_14 100 (nI x) (nI D) (tlm ta x D z) (-4) 0 I = _ from c_since_l hG ti (by omega) hD2 (tlm ta x D z) z 0 100 (by omega) (by omega)]
    · rw [M, if_neg (by decide), if_neg (by decide), if_pos (by rfl)]
      simp only [g_X9_since]
      rw [mt]
      dsimp only
      rw [show g_X9_since_14 100 (nI x) (nI D) (tlm ta x D z) (-4) 0 I = _ from m_since_l hG ti (by omega) hD2 (tlm ta x D z) z 0 100 (by omega) (by omega)]
  · refine bad (nI (fo ta x z z)) ?_ ?_
    · rw [C, if_neg (by decide), if_neg (by decide), if_neg (by decide), if_pos (by rfl)]
      simp only [g_X6_falseOnes]
      rw [show g_X6_falseOnes_4 100 (nI x) 0 0 I = _ from c_false hG ti (by omega) z 0 100 (by omega) (by omega)]
    · rw [M, if_neg (by decide), if_neg (by decide), if_neg (by decide)]
      simp only [g_X9_falseOnes]
      rw [show g_X9_falseOnes_4 100 (nI x) 0 0 I = _ from m_false hG ti (by omega) z 0 100 (by omega) (by omega)]
