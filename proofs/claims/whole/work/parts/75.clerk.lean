/-! The clerks of a minute; a whole minute; what stands; what a hand has; copies. -/
/-- what is up when the first k clerks have turned -/
def clk (π : Pln) (m lk lb U : Nat) : Nat → Nat
  | 0 => U
  | k + 1 => if π 14 k + (if k = lk then lb else 0) ≤ m ∧ (m - (π 14 k + (if k = lk then lb else 0))) % π 13 k = 0 then clk π m lk lb U k ^^^ cl π (π 12 k) else clk π m lk lb U k
theorem clk_lt {π : Pln} (hv : PV π) {m lk lb U : Nat} (hU : U < 256) : ∀ k, k ≤ π 11 0 → clk π m lk lb U k < 256 := by
  intro k
  induction k with
  | zero => intro _; exact hU
  | succ k ih =>
    intro hk
    have hc := hv.2.2.2.2.2.2.1 k (by omega)
    unfold clk
    generalize (if k = lk then lb else 0) = dl
    split
    · exact xor_lt (ih (by omega)) (Nat.lt_of_lt_of_le (cl_lt hv hc.1) (pow_G hv))
    · exact ih (by omega)
/-- turned sets of the class -/
def TuC (I : IH) (q : Nat) (π : Pln) : Prop := ∀ x, x < π 0 0 → I (q + 9) x = nI (cl π x)
theorem sub_nn {a b c : Nat} (ha : a < 2 ^ 30) (hb : b + c < 2 ^ 30) : (nI a - nI b - nI c).toInt = (a : Int) - (b + c : Nat) := by
  have e : nI a - nI b - nI c = nI a - nI (b + c) := by
    rw [← nI_add]
    rw [Int32.sub_sub]
  rw [e, pk_sub_toInt ha (by omega)]
theorem late_neg {m b c : Nat} (hm : m < 2 ^ 30) (hb : b + c < 2 ^ 30) : (nI m - nI b - nI c < 0) ↔ ¬ b + c ≤ m := by
  rw [Int32.lt_iff_toInt_lt, sub_nn hm hb, Int32.toInt_zero]
  omega
theorem late_eq {m b c : Nat} (h : b + c ≤ m) : nI m - nI b - nI c = nI (m - (b + c)) := by
  rw [Int32.sub_sub, nI_add, pk_sub h]
set_option maxHeartbeats 1000000 in
theorem c_clerks_loop {q s : Nat} (hs : s = 31 ∨ s = 33) (hq : q = 5 ∨ q = 18) {π : Pln} (hv : PV π) {sa : Nat → Nat} {U m lk lb : Nat} (hU : U < 256) (hm : m ≤ 1100000) {v2 : Int32} (hlk : ∀ k, k < 8 → (nI k = v2 ↔ k = lk)) (hlb : lb ≤ 99) :
    ∀ (d k n : Nat) (J : IH), k + d = π 11 0 → d < n → PlC J q π → TuC J q π → ShC J s (π 0 0) sa (clk π m lk lb U k) m →
    ∃ I', g_X5_letClerksTurn_3 s q n v2 (nI lb) (nI k) J = some I' ∧ ShC I' s (π 0 0) sa (clk π m lk lb U (π 11 0)) m ∧ ∀ id, id ≠ s → I' id = J id := by
  have hG8 := hv.2.1
  have hC8 := hv.2.2.2.2.2.1
  intro d
  induction d with
  | zero =>
    intro k n J hk hn hP hT hJ
    obtain ⟨n, rfl⟩ : ∃ k, n = k + 1 := ⟨n - 1, by omega⟩
    simp only [g_X5_letClerksTurn_3]
    rw [if_pos (by rw [hP.2.2.2.1]; exact nI_le (by omega) (by omega))]
    exact ⟨J, rfl, by rw [show π 11 0 = k by omega]; exact hJ, fun _ _ => rfl⟩
  | succ d ih =>
    intro k n J hk hn hP hT hJ
    obtain ⟨n, rfl⟩ : ∃ k, n = k + 1 := ⟨n - 1, by omega⟩
    have hkC : k < π 11 0 := by omega
    obtain ⟨c1, c2, c3, c4⟩ := hv.2.2.2.2.2.2.1 k hkC
    obtain ⟨p1, p2, p3⟩ := hP.2.2.2.2.1 k hkC
    have i8 : inB (nI k) 8 = true := inB_t (by omega) (by omega)
    simp only [g_X5_letClerksTurn_3, g_X5_letClerksTurn_35, g_X5_letClerksTurn_81, bnd_eq]
    rw [if_neg (by rw [hP.2.2.2.1]; exact nI_ge hkC (by omega)), i8]
    simp only [if_pos]
    rw [nI_clamp (by omega), p1, p2, p3, hJ.2.1, nI_1]
    -- the delay
    have key : ∀ dl : Nat, dl ≤ 99 → (dl = if k = lk then lb else 0) → ∃ I', (if nI m - nI (π 14 k) - nI dl < 0 then g_X5_letClerksTurn_3 s q n v2 (nI lb) (nI (k + 1)) J else if nI (π 13 k) ≤ 0 then g_X5_letClerksTurn_3 s q n v2 (nI lb) (nI (k + 1)) J else if nI (π 13 k) = 0 then none else if nI m - nI (π 14 k) - nI dl - (nI m - nI (π 14 k) - nI dl) / nI (π 13 k) * nI (π 13 k) = 0 then if inB (nI (π 12 k)) 8 = true then match g_X5_flip n s (J (q + 9) (nI (π 12 k)).toNatClampNeg) J with | none => none | some J19 => g_X5_letClerksTurn_3 s q n v2 (nI lb) (nI (k + 1)) J19 else none else g_X5_letClerksTurn_3 s q n v2 (nI lb) (nI (k + 1)) J) = some I' ∧ ShC I' s (π 0 0) sa (clk π m lk lb U (π 11 0)) m ∧ ∀ id, id ≠ s → I' id = J id := by
      intro dl hdl edl
      have same : clk π m lk lb U (k + 1) = clk π m lk lb U k → ∃ I', g_X5_letClerksTurn_3 s q n v2 (nI lb) (nI (k + 1)) J = some I' ∧ ShC I' s (π 0 0) sa (clk π m lk lb U (π 11 0)) m ∧ ∀ id, id ≠ s → I' id = J id := fun e => ih (k + 1) n J (by omega) (by omega) hP hT (by rw [e]; exact hJ)
      by_cases h1 : π 14 k + dl ≤ m
      · rw [if_neg (fun q => (late_neg (by omega) (by omega)).mp q h1), if_neg (by rw [li0]; exact nI_ge (by omega) (by omega)), if_neg (by rw [li0, nI_eq (by omega) (by omega)]; omega), late_eq h1, pk_rem (by omega) (by omega) (by omega)]
        have hmod : (m - (π 14 k + dl)) % π 13 k < π 13 k := Nat.mod_lt _ (by omega)
        by_cases h2 : (m - (π 14 k + dl)) % π 13 k = 0
        · rw [if_pos (by rw [h2]; rfl), inB_t (by omega) (by omega), if_pos rfl, nI_clamp (by omega), hT _ c1]
          obtain ⟨I1, f1, f2, f3⟩ := c_flip (n := n) (M := cl π (π 12 k)) hJ
          rw [f1]
          dsimp only
          have e : clk π m lk lb U (k + 1) = clk π m lk lb U k ^^^ cl π (π 12 k) := by
            show (if _ then _ else _) = _
            rw [if_pos (by rw [← edl]; exact ⟨h1, h2⟩)]
          obtain ⟨I', g1, g2, g3⟩ := ih (k + 1) n I1 (by omega) (by omega) (PlC_congr (fun j hj => f3 _ (by omega)) hP) (fun x hx => by rw [f3 _ (by omega)]; exact hT x hx) (by rw [e]; exact f2)
          exact ⟨I', g1, g2, fun id h => by rw [g3 id h, f3 id h]⟩
        · rw [if_neg (by rw [li0, nI_eq (by omega) (by omega)]; exact h2)]
          exact same (by show (if _ then _ else _) = _; rw [if_neg (by rw [← edl]; exact fun q => h2 q.2)])
      · rw [if_pos ((late_neg (by omega) (by omega)).mpr h1)]
        exact same (by show (if _ then _ else _) = _; rw [if_neg (by rw [← edl]; exact fun q => h1 q.1)])
    by_cases hl : k = lk
    · rw [if_pos ((hlk k (by omega)).mpr hl)]
      exact key lb hlb (by rw [if_pos hl])
    · rw [if_neg (fun q => hl ((hlk k (by omega)).mp q))]
      exact key 0 (by omega) (by rw [if_neg hl])
