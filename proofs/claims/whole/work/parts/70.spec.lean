/-! What the cells mean: numbers as natural numbers; the plan, a shelf, one minute. -/
theorem bnd_eq {α β : Type} (e : α) (f : α → Option β) : bnd e f = f e := rfl
theorem inB_nI {a N : Nat} (h : a < 2 ^ 31) : inB (nI a) N = decide (a < N) := by
  unfold inB
  rw [nI_toInt h, nI_clamp h]
  have : (0 : Int) ≤ (a : Int) := by omega
  rw [decide_eq_true this, Bool.true_and]
  rw [Bool.eq_iff_iff]
  simp
theorem inB_t {a N : Nat} (h : a < N) (hN : N < 2 ^ 31) : inB (nI a) N = true := by
  rw [inB_nI (by omega)]
  exact decide_eq_true h
theorem li0 : (0 : Int32) = nI 0 := by decide +kernel
theorem li1 : (1 : Int32) = nI 1 := by decide +kernel
theorem li2 : (2 : Int32) = nI 2 := by decide +kernel
theorem li3 : (3 : Int32) = nI 3 := by decide +kernel
theorem li8 : (8 : Int32) = nI 8 := by decide +kernel
theorem li16 : (16 : Int32) = nI 16 := by decide +kernel
theorem sh_l : ∀ n, n < 32 → ((nI n &&& 31).toBitVec.smod 32).toNat = n := by decide +kernel
theorem nI_and (a b : Nat) : nI a &&& nI b = nI (a &&& b) := by
  apply Int32.toBitVec_inj.1
  show BitVec.ofNat 32 a &&& BitVec.ofNat 32 b = BitVec.ofNat 32 (a &&& b)
  apply BitVec.eq_of_getLsbD_eq
  intro i hi
  simp [hi]
theorem nI_xor (a b : Nat) : nI a ^^^ nI b = nI (a ^^^ b) := by
  apply Int32.toBitVec_inj.1
  show BitVec.ofNat 32 a ^^^ BitVec.ofNat 32 b = BitVec.ofNat 32 (a ^^^ b)
  apply BitVec.eq_of_getLsbD_eq
  intro i hi
  simp [hi]
theorem nI_or (a b : Nat) : nI a ||| nI b = nI (a ||| b) := by
  apply Int32.toBitVec_inj.1
  show BitVec.ofNat 32 a ||| BitVec.ofNat 32 b = BitVec.ofNat 32 (a ||| b)
  apply BitVec.eq_of_getLsbD_eq
  intro i hi
  simp [hi]
/-- bit i of U -/
def bU (U i : Nat) : Nat := U / 2 ^ i % 2
theorem bU_lt (U i : Nat) : bU U i < 2 := Nat.mod_lt _ (by omega)
theorem nI_bit {U i : Nat} (hU : U < 2 ^ 31) (hi : i < 32) : (nI U >>> (nI i &&& 31)) &&& 1 = nI (bU U i) := by
  rw [pk_shrN hU _ i (sh_l i hi), li1, nI_and, Nat.and_one_is_mod]
  rfl
theorem nI_pow {i : Nat} (hi : i < 31) : (1 : Int32) <<< (nI i &&& 31) = nI (2 ^ i) := by
  have h : 2 ^ i ≤ 2 ^ 30 := Nat.pow_le_pow_right (by omega) (by omega)
  rw [li1, pk_shlN _ i (sh_l i (by omega)) (by omega), Nat.one_mul]
theorem up2_s {α : Type} (f : Nat → Nat → α) (i j : Nat) (v : α) : up2 f i j v i j = v := by simp [up2]
theorem up2_j {α : Type} (f : Nat → Nat → α) {i j k : Nat} (v : α) (h : k ≠ j) : up2 f i j v i k = f i k := by simp [up2, h]
theorem up2_i {α : Type} (f : Nat → Nat → α) {i j a : Nat} (v : α) (h : a ≠ i) : up2 f i j v a = f a := by simp [up2, h]
/-! ### the plan: field and place
0 G, 1 kinds, 2 necks, 3 partners, 4 A, 5 B, 6 X, 7 Y, 8 T, 9 10 ties, 11 C, 12 13 14 clerks, 15 R, 16 Q -/
abbrev Pln := Nat → Nat → Nat
def PV (π : Pln) : Prop := 1 ≤ π 0 0 ∧ π 0 0 ≤ 8 ∧ (∀ i, i < π 0 0 → π 1 i ≤ 3 ∧ 1 ≤ π 2 i ∧ π 2 i ≤ 60 ∧ π 3 i ≤ 5 ∧ π 4 i ≤ 5 ∧ π 5 i ≤ 5 ∧ π 6 i ≤ 999 ∧ π 7 i ≤ 999) ∧ π 8 0 ≤ 8 ∧ (∀ k, k < π 8 0 → π 9 k < π 0 0 ∧ π 10 k < π 0 0) ∧ π 11 0 ≤ 8 ∧ (∀ k, k < π 11 0 → π 12 k < π 0 0 ∧ 1 ≤ π 13 k ∧ π 13 k ≤ 99 ∧ π 14 k ≤ 99) ∧ π 15 0 ≤ 99 ∧ π 16 0 ≤ 99
/-- the glasses tied to glass i, as told -/
def tmk (π : Pln) (i : Nat) : Nat → Nat
  | 0 => 0
  | k + 1 => if π 9 k = i then tmk π i k ||| 2 ^ π 10 k else tmk π i k
/-- the class's plan at cell q -/
def PlC (I : IH) (q : Nat) (π : Pln) : Prop := I q 0 = nI (π 0 0) ∧ (∀ i, i < π 0 0 → I (q + 1) i = nI (π 1 i) ∧ I (q + 2) i = nI (π 2 i) ∧ I (q + 3) i = nI (π 3 i) ∧ I (q + 4) (2 * i) = nI (π 4 i) ∧ I (q + 4) (2 * i + 1) = nI (π 5 i) ∧ I (q + 5) (2 * i) = nI (π 6 i) ∧ I (q + 5) (2 * i + 1) = nI (π 7 i) ∧ I (q + 6) i = nI (if π 1 i = 3 then 2 * π 2 i else π 2 i) ∧ I (q + 7) i = nI (if π 1 i = 1 ∨ π 1 i = 3 then 0 else π 2 i) ∧ I (q + 8) i = nI (tmk π i (π 8 0))) ∧ I q 8 = nI (π 8 0) ∧ I q 11 = nI (π 11 0) ∧ (∀ k, k < π 11 0 → I (q + 10) k = nI (π 12 k) ∧ I (q + 11) k = nI (π 13 k) ∧ I (q + 12) k = nI (π 14 k)) ∧ I q 15 = nI (π 15 0) ∧ I q 16 = nI (π 16 0)
/-- the reference's book b -/
def PlM (I : IH) (b : Nat) (π : Pln) : Prop := I 57 b = nI (π 0 0) ∧ (∀ i, i < π 0 0 → I 58 (8 * b + i) = nI (π 1 i) ∧ I 61 (8 * b + i) = nI (π 2 i) ∧ I 64 (8 * b + i) = nI (π 3 i) ∧ I 59 (8 * b + i) = nI (π 4 i) ∧ I 60 (8 * b + i) = nI (π 5 i) ∧ I 62 (8 * b + i) = nI (π 6 i) ∧ I 63 (8 * b + i) = nI (π 7 i)) ∧ I 65 b = nI (π 8 0) ∧ (∀ k, k < π 8 0 → I (66 + b) (2 * k) = nI (π 9 k) ∧ I (66 + b) (2 * k + 1) = nI (π 10 k)) ∧ I 68 b = nI (π 11 0) ∧ (∀ k, k < π 11 0 → I 69 (8 * b + k) = nI (π 12 k) ∧ I 70 (8 * b + k) = nI (π 13 k) ∧ I 71 (8 * b + k) = nI (π 14 k)) ∧ I 72 b = nI (π 15 0) ∧ I 73 b = nI (π 16 0)
theorem PlC_congr {I I' : IH} {q : Nat} {π : Pln} (h : ∀ j, j ≤ 12 → I' (q + j) = I (q + j)) (hp : PlC I q π) : PlC I' q π := by
  unfold PlC at *
  have h0 := h 0 (by omega)
  rw [Nat.add_zero] at h0
  rw [h0, h 1 (by omega), h 2 (by omega), h 3 (by omega), h 4 (by omega), h 5 (by omega), h 6 (by omega), h 7 (by omega), h 8 (by omega), h 10 (by omega), h 11 (by omega), h 12 (by omega)]
  exact hp
theorem PlM_congr {I I' : IH} {b : Nat} {π : Pln} (hb : b ≤ 1) (h : ∀ j, 57 ≤ j → j ≤ 73 → I' j = I j) (hp : PlM I b π) : PlM I' b π := by
  unfold PlM at *
  rw [h 57 (by omega) (by omega), h 58 (by omega) (by omega), h 59 (by omega) (by omega), h 60 (by omega) (by omega), h 61 (by omega) (by omega), h 62 (by omega) (by omega), h 63 (by omega) (by omega), h 64 (by omega) (by omega), h 65 (by omega) (by omega), h (66 + b) (by omega) (by omega), h 68 (by omega) (by omega), h 69 (by omega) (by omega), h 70 (by omega) (by omega), h 71 (by omega) (by omega), h 72 (by omega) (by omega), h 73 (by omega) (by omega)]
  exact hp
/-! ### a shelf: sand by bulb, bits of what is up, the minute -/
def ShC (I : IH) (s G : Nat) (sa : Nat → Nat) (U m : Nat) : Prop := I s 1 = nI U ∧ I s 2 = nI m ∧ ∀ b, b < 2 * G → I (s + 1) b = nI (sa b)
def ShM (I : IH) (k G : Nat) (sa : Nat → Nat) (U m : Nat) : Prop := I 76 k = nI m ∧ (∀ i, i < G → I 75 (8 * k + i) = nI (bU U i)) ∧ ∀ b, b < 2 * G → I 74 (16 * k + b) = nI (sa b)
/-- small enough for all that is reckoned -/
def ShV (G : Nat) (sa : Nat → Nat) (U m : Nat) : Prop := U < 256 ∧ m ≤ 1100000 ∧ ∀ b, b < 2 * G → sa b ≤ 20000
def flw (π : Pln) (m i : Nat) : Nat := if π 1 i = 1 ∨ π 1 i = 3 then (if m % 3 = 2 then 0 else if π 1 i = 3 then 2 * π 2 i else π 2 i) else π 2 i
/-- how many fall in glass i -/
def fln (π : Pln) (m U : Nat) (sa : Nat → Nat) (i : Nat) : Nat := min (sa (2 * i + bU U i)) (flw π m i)
/-- the sand behind a minute, when the first g glasses have run -/
def fal (π : Pln) (m U : Nat) (sa : Nat → Nat) (g : Nat) : Nat → Nat := fun b => if b / 2 < g then (if b % 2 = bU U (b / 2) then sa b - fln π m U sa (b / 2) else sa b + fln π m U sa (b / 2)) else sa b
