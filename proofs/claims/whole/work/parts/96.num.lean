/-! fault, lay: the text and its numbers -/
def TXT (T : Nat → Nat) (len : Nat) : Prop := len ≤ 400 ∧ (∀ j, T j < 256) ∧ ∀ j, len ≤ j → T j = 0
def TxC (J : IH) (T : Nat → Nat) (len : Nat) : Prop := J 1 1 = nI len ∧ ∀ j, j < len → J 2 j &&& 255 = nI (T j)
def TxM (J : IH) (T : Nat → Nat) (len : Nat) : Prop := J 55 0 = nI len ∧ ∀ j, j < len → J 56 j = nI (T j)
theorem tx_ex {I : IH} (h : TxI I) : ∃ T len, TXT T len ∧ TxC I T len ∧ TxM I T len := by
  obtain ⟨len, h1, h2, h3, h4⟩ := h
  have hx : ∀ j, ∃ b, b < 256 ∧ (len ≤ j → b = 0) ∧ (j < len → I 2 j &&& 255 = nI b ∧ I 56 j = nI b) := by
    intro j
    by_cases c : j < len
    · obtain ⟨b, q1, q2, q3⟩ := h4 j c
      exact ⟨b, q1, fun q => by omega, fun _ => ⟨q2, q3⟩⟩
    · exact ⟨0, by omega, fun _ => rfl, fun q => absurd q c⟩
  refine ⟨fun j => Classical.choose (hx j), len, ⟨h1, fun j => (Classical.choose_spec (hx j)).1, fun j => (Classical.choose_spec (hx j)).2.1⟩, ⟨h2, fun j hj => ((Classical.choose_spec (hx j)).2.2 hj).1⟩, h3, fun j hj => ((Classical.choose_spec (hx j)).2.2 hj).2⟩
abbrev dgt (T : Nat → Nat) (j : Nat) : Prop := 48 ≤ T j ∧ T j ≤ 57
/-- how many figures stand from pos on, at most c -/
def ndg (T : Nat → Nat) : Nat → Nat → Nat
  | _, 0 => 0
  | pos, c + 1 => if dgt T pos then ndg T (pos + 1) c + 1 else 0
theorem ndg_p {T : Nat → Nat} : ∀ c pos, ndg T pos c ≤ c ∧ (∀ j, j < ndg T pos c → dgt T (pos + j)) ∧ (ndg T pos c = c ∨ ¬ dgt T (pos + ndg T pos c)) := by
  intro c
  induction c with
  | zero => intro pos; exact ⟨Nat.le_refl _, fun j hj => absurd hj (Nat.not_lt_zero _), Or.inl rfl⟩
  | succ c ih =>
    intro pos
    obtain ⟨i1, i2, i3⟩ := ih (pos + 1)
    unfold ndg
    by_cases q : dgt T pos
    · rw [if_pos q]
      refine ⟨by omega, fun j hj => ?_, ?_⟩
      · by_cases c0 : j = 0
        · subst c0; exact q
        · have := i2 (j - 1) (by omega)
          rw [show pos + 1 + (j - 1) = pos + j by omega] at this
          exact this
      · rcases i3 with h | h
        · exact Or.inl (by omega)
        · refine Or.inr ?_
          rw [show pos + (ndg T (pos + 1) c + 1) = pos + 1 + ndg T (pos + 1) c by omega]
          exact h
    · rw [if_neg q]
      exact ⟨by omega, fun j hj => absurd hj (Nat.not_lt_zero _), Or.inr q⟩
/-- the number in k figures -/
def vl (T : Nat → Nat) (pos : Nat) : Nat → Nat
  | 0 => 0
  | k + 1 => 10 * vl T pos k + (T (pos + k) - 48)
theorem vl_bd {T : Nat → Nat} {len : Nat} (hT : TXT T len) {pos : Nat} : ∀ k, k ≤ 4 → vl T pos k ≤ 300 * 11 ^ k := by
  intro k
  induction k with
  | zero => intro _; exact Nat.zero_le _
  | succ k ih =>
    intro hk
    have := ih (by omega)
    have h2 := hT.2.1 (pos + k)
    have h3 : 11 ^ (k + 1) = 11 ^ k * 11 := Nat.pow_succ _ _
    have h4 : 1 ≤ 11 ^ k := Nat.pow_pos (by omega)
    show 10 * vl T pos k + (T (pos + k) - 48) ≤ _
    rw [h3]
    omega
theorem vl_big {T : Nat → Nat} {len : Nat} (hT : TXT T len) {pos k : Nat} (hk : k ≤ 4) : vl T pos k ≤ 5000000 := by
  have h := vl_bd hT (pos := pos) k hk
  rcases (by omega : k = 0 ∨ k = 1 ∨ k = 2 ∨ k = 3 ∨ k = 4) with e | e | e | e | e <;> subst e <;> omega
theorem vl_999 {T : Nat → Nat} {pos d : Nat} (hd : d ≤ 3) (h : ∀ j, j < d → dgt T (pos + j)) : vl T pos d ≤ 999 := by
  rcases (by omega : d = 0 ∨ d = 1 ∨ d = 2 ∨ d = 3) with e | e | e | e <;> subst e
  · exact Nat.zero_le _
  · have h0 := h 0 (by omega)
    show 10 * 0 + (T (pos + 0) - 48) ≤ 999
    unfold dgt at h0
    omega
  · have h0 := h 0 (by omega)
    have h1 := h 1 (by omega)
    show 10 * (10 * 0 + (T (pos + 0) - 48)) + (T (pos + 1) - 48) ≤ 999
    unfold dgt at h0 h1
    omega
  · have h0 := h 0 (by omega)
    have h1 := h 1 (by omega)
    have h2 := h 2 (by omega)
    show 10 * (10 * (10 * 0 + (T (pos + 0) - 48)) + (T (pos + 1) - 48)) + (T (pos + 2) - 48) ≤ 999
    unfold dgt at h0 h1 h2
    omega
theorem vl_s {T : Nat → Nat} {pos k : Nat} (h : dgt T (pos + k)) : (10 : Int32) * nI (vl T pos k) + nI (T (pos + k)) - 48 = nI (vl T pos (k + 1)) := by
  unfold dgt at h
  rw [show (10 : Int32) = nI 10 from rfl, show (48 : Int32) = nI 48 from rfl, pk_mul, nI_add, pk_sub (by omega)]
  show nI (10 * vl T pos k + T (pos + k) - 48) = nI (10 * vl T pos k + (T (pos + k) - 48))
  congr 1
  omega
/-- what the class reads at a place -/
def ca (T : Nat → Nat) (len pos : Nat) : Int32 := if pos < len then nI (T pos) else -1
theorem le_pred {a b : Nat} (ha : a < 2 ^ 31) (hb : b < 2 ^ 31) : (0 ≤ nI a ∧ nI a ≤ nI b - 1) ↔ a < b := by
  cases b with
  | zero =>
    refine ⟨fun h => ?_, fun h => absurd h (Nat.not_lt_zero _)⟩
    exfalso
    have h1 := h.1
    have h2 := h.2
    rw [show nI 0 - 1 = (-1 : Int32) from by decide] at h2
    rw [Int32.le_iff_toInt_le] at h1 h2
    rw [show (0 : Int32).toInt = 0 from rfl] at h1
    rw [show (-1 : Int32).toInt = -1 from rfl] at h2
    omega
  | succ b =>
    rw [nI_pred, nI_leI ha (by omega)]
    exact ⟨fun h => by omega, fun h => ⟨nI_pos' ha, by omega⟩⟩
theorem c_at {T : Nat → Nat} {len pos n : Nat} (hT : TXT T len) {J : IH} (hx : TxC J T len) (hp : pos ≤ 1000) : g_X7_at n (nI pos) J = some (ca T len pos, J) := by
  have h4 := hT.1
  simp only [g_X7_at, bnd_eq]
  rw [c_within]
  dsimp only
  rw [r01, hx.1]
  unfold ca
  by_cases c : pos < len
  · rw [if_pos ((le_pred (by omega) (by omega)).mpr c), inB_t (by omega : pos < 400) (by omega), if_pos rfl, if_pos c, nI_clamp (by omega), hx.2 pos c]
  · rw [if_neg (fun q => c ((le_pred (by omega) (by omega)).mp q)), if_neg c]
theorem m_at {T : Nat → Nat} {len pos n : Nat} (hT : TXT T len) {J : IH} (hx : TxM J T len) (hp : pos ≤ 1000) : g_X9_byteAt n (nI pos) J = some (nI (T pos), J) := by
  have h4 := hT.1
  simp only [g_X9_byteAt, bnd_eq]
  rw [hx.1]
  by_cases c : pos < len
  · rw [if_neg (nI_ge c (by omega)), inB_t (by omega : pos < 400) (by omega), if_pos rfl, nI_clamp (by omega), hx.2 pos c]
  · rw [if_pos (nI_le (by omega) (by omega)), hT.2.2 pos (by omega)]
    rfl
theorem dgt_in {T : Nat → Nat} {len : Nat} (hT : TXT T len) {j : Nat} (h : 1 ≤ T j) : j < len := by
  by_cases c : j < len
  · exact c
  · have := hT.2.2 j (by omega)
    omega
theorem ca_eq {T : Nat → Nat} {len : Nat} (hT : TXT T len) {pos c : Nat} (h1 : 1 ≤ c) (h2 : c < 2 ^ 31) : ca T len pos = nI c ↔ T pos = c := by
  have hb := hT.2.1 pos
  unfold ca
  by_cases q : pos < len
  · rw [if_pos q, nI_eq (by omega) h2]
  · rw [if_neg q, hT.2.2 pos (by omega)]
    refine ⟨fun e => ?_, fun e => by omega⟩
    exfalso
    have h3 := nI_pos' h2
    rw [← e] at h3
    exact absurd h3 (by decide)
theorem ca_59 {T : Nat → Nat} {len : Nat} (hT : TXT T len) {pos : Nat} : ca T len pos = (59 : Int32) ↔ T pos = 59 := ca_eq (c := 59) hT (by omega) (by omega)
theorem ca_44 {T : Nat → Nat} {len : Nat} (hT : TXT T len) {pos : Nat} : ca T len pos = (44 : Int32) ↔ T pos = 44 := ca_eq (c := 44) hT (by omega) (by omega)
theorem ca_dig {T : Nat → Nat} {len : Nat} (hT : TXT T len) {pos : Nat} : ((48 : Int32) ≤ ca T len pos ∧ ca T len pos ≤ 57) ↔ dgt T pos := by
  have hb := hT.2.1 pos
  unfold ca dgt
  by_cases q : pos < len
  · rw [if_pos q, show (48 : Int32) = nI 48 from rfl, show (57 : Int32) = nI 57 from rfl, nI_leI (by omega) (by omega), nI_leI (by omega) (by omega)]
  · rw [if_neg q, hT.2.2 pos (by omega)]
    exact ⟨fun e => absurd e.1 (by decide), fun e => absurd e.1 (by decide)⟩
theorem na_dig {T : Nat → Nat} {len : Nat} (hT : TXT T len) {pos : Nat} : ((48 : Int32) ≤ nI (T pos) ∧ nI (T pos) ≤ 57) ↔ dgt T pos := by
  have hb := hT.2.1 pos
  unfold dgt
  rw [show (48 : Int32) = nI 48 from rfl, show (57 : Int32) = nI 57 from rfl, nI_leI (by omega) (by omega), nI_leI (by omega) (by omega)]
theorem ca_in {T : Nat → Nat} {len pos : Nat} (h : pos < len) : ca T len pos = nI (T pos) := if_pos h
def fr34 (J I' : IH) : Prop := ∀ id, id ≠ 3 → id ≠ 4 → I' id = J id
theorem fr34_t {I J K : IH} (h1 : fr34 I J) (h2 : fr34 J K) : fr34 I K := fun id a b => (h2 id a b).trans (h1 id a b)
theorem fr34_x {I J : IH} (h : fr34 I J) {T : Nat → Nat} {len : Nat} (hx : TxC I T len) : TxC J T len := by
  obtain ⟨a, b⟩ := hx
  exact ⟨by rw [h _ (by omega) (by omega)]; exact a, fun j hj => by rw [h _ (by omega) (by omega)]; exact b j hj⟩
theorem c_num_loop {T : Nat → Nat} {len pos x d : Nat} (hT : TXT T len) (hx : x < 6) (hpos : pos ≤ 500) (hd : d ≤ 3) (h1 : ∀ j, j < d → dgt T (pos + j)) (h2 : d = 3 ∨ ¬ dgt T (pos + d)) :
    ∀ (r k n : Nat) (J : IH), k + r = d → r < n → TxC J T len → J 3 1 = nI (pos + k) →
    ∃ I', g_X3_readNumber_5 n (nI x) (nI (vl T pos k)) (nI k) J = some (if d = 0 then 0 else 1, I') ∧ I' 3 1 = nI (pos + d) ∧ I' 4 x = nI (vl T pos d) ∧ (∀ j, j ≠ x → I' 4 j = J 4 j) ∧ fr34 J I' := by
  intro r
  induction r with
  | zero =>
    intro k n J hk hn hX hJ
    obtain ⟨n, rfl⟩ : ∃ k, n = k + 1 := ⟨n - 1, by omega⟩
    have e : k = d := by omega
    subst e
    have fin : ∃ I', g_X3_readNumber_62 n (nI x) (nI (vl T pos k)) (nI k) J = some (if k = 0 then 0 else 1, I') ∧ I' 3 1 = nI (pos + k) ∧ I' 4 x = nI (vl T pos k) ∧ (∀ j, j ≠ x → I' 4 j = J 4 j) ∧ fr34 J I' := by
      simp only [g_X3_readNumber_62, bnd_eq]
      rw [inB_t hx (by omega), if_pos rfl, nI_clamp (by omega)]
      refine ⟨up2 J 4 x (nI (vl T pos k)), ?_, by rw [up2_i _ _ (by omega)]; exact hJ, up2_s _ _ _ _, fun j hj => up2_j _ _ hj, fun id _ i2 => up2_i _ _ i2⟩
      by_cases c : k = 0
      · subst c
        rw [if_pos (by decide), if_pos rfl]
      · rw [if_neg (nI_nle (by omega) (by omega)), if_neg c]
    simp only [g_X3_readNumber_5, bnd_eq]
    by_cases c3 : k = 3
    · rw [if_pos (by rw [li3]; exact nI_le (by omega) (by omega))]
      exact fin
    · have hnd : ¬ dgt T (pos + k) := by
        rcases h2 with h | h
        · exact absurd h c3
        · exact h
      rw [if_neg (by rw [li3]; exact nI_ge (by omega) (by omega)), hJ, c_at hT hX (by omega)]
      dsimp only
      rw [c_within]
      dsimp only
      rw [r01, if_neg (fun q => hnd ((ca_dig hT).mp q))]
      exact fin
  | succ r ih =>
    intro k n J hk hn hX hJ
    obtain ⟨n, rfl⟩ : ∃ k, n = k + 1 := ⟨n - 1, by omega⟩
    have hdg := h1 k (by omega)
    have hlt : pos + k < len := dgt_in hT (by unfold dgt at hdg; omega)
    obtain ⟨I', k1, k2, k3, k4, k5⟩ := ih (k + 1) n (up2 J 3 1 (nI (pos + (k + 1)))) (by omega) (by omega) ⟨by rw [up2_i _ _ (by omega)]; exact hX.1, fun j hj => by rw [up2_i _ _ (by omega)]; exact hX.2 j hj⟩ (up2_s _ _ _ _)
    refine ⟨I', ?_, k2, k3, fun j hj => by rw [k4 j hj, up2_i _ _ (by omega)], fun id i1 i2 => by rw [k5 id i1 i2, up2_i _ _ i1]⟩
    simp only [g_X3_readNumber_5, bnd_eq]
    rw [if_neg (by rw [li3]; exact nI_ge (by omega) (by omega)), hJ, c_at hT hX (by omega)]
    dsimp only
    rw [c_within]
    dsimp only
    rw [r01, if_pos ((ca_dig hT).mpr hdg), hJ, c_at hT hX (by omega)]
    dsimp only
    rw [ca_in hlt, vl_s hdg, hJ, nI_1, nI_1, Nat.add_assoc]
    exact k1
/-- r numbers from pos on, into places k and on -/
def nms (T : Nat → Nat) : Nat → Nat → Nat → (Nat → Nat) → Option (Nat × (Nat → Nat))
  | 0, _, pos, a => some (pos, a)
  | r + 1, k, pos, a => if 1 ≤ ndg T pos 4 ∧ ndg T pos 4 ≤ 3 ∧ T (pos + ndg T pos 4) = (if r = 0 then 59 else 44) then nms T r (k + 1) (pos + ndg T pos 4 + 1) (updN a k (vl T pos (ndg T pos 4))) else none
theorem nms_p {T : Nat → Nat} {len : Nat} (hT : TXT T len) : ∀ (r k pos : Nat) (a : Nat → Nat) (pos' : Nat) (a' : Nat → Nat), nms T r k pos a = some (pos', a') → pos ≤ len → (∀ j, a j ≤ 999) → pos ≤ pos' ∧ pos' ≤ len ∧ ∀ j, a' j ≤ 999 := by
  intro r
  induction r with
  | zero =>
    intro k pos a pos' a' h hp ha
    simp only [nms, Option.some.injEq, Prod.mk.injEq] at h
    obtain ⟨rfl, rfl⟩ := h
    exact ⟨Nat.le_refl _, hp, ha⟩
  | succ r ih =>
    intro k pos a pos' a' h hp ha
    by_cases q : 1 ≤ ndg T pos 4 ∧ ndg T pos 4 ≤ 3 ∧ T (pos + ndg T pos 4) = (if r = 0 then 59 else 44)
    · have en : nms T (r + 1) k pos a = nms T r (k + 1) (pos + ndg T pos 4 + 1) (updN a k (vl T pos (ndg T pos 4))) := if_pos q
      rw [en] at h
      obtain ⟨q1, q2, q3⟩ := q
      obtain ⟨-, g2, -⟩ := ndg_p (T := T) 4 pos
      have hl : pos + ndg T pos 4 < len := dgt_in hT (by rw [q3]; split <;> omega)
      obtain ⟨i1, i2, i3⟩ := ih (k + 1) _ _ pos' a' h (by omega) (fun j => by
        unfold updN
        split
        · exact vl_999 q2 g2
        · exact ha j)
      exact ⟨by omega, i2, i3⟩
    · have en : nms T (r + 1) k pos a = none := if_neg q
      rw [en] at h
      cases h
theorem pred_eq {k r : Nat} (h : k + r + 1 < 2 ^ 31) : (nI k = nI (k + (r + 1)) - 1) ↔ r = 0 := by
  rw [show k + (r + 1) = k + r + 1 by omega, nI_pred, nI_eq (by omega) (by omega)]
  omega
theorem c_nms {T : Nat → Nat} {len q : Nat} (hT : TXT T len) {v3 : Int32} :
    ∀ (r k n pos : Nat) (a : Nat → Nat) (J : IH), k + r ≤ 6 → pos ≤ len → r + 10 < n → TxC J T len → J 3 1 = nI pos → (∀ j, j < k → J 4 j = nI (a j)) →
    (nms T r k pos a = none → ∃ I', g_X3_readItem_35 q n v3 (nI (k + r)) (nI k) J = some (0, I') ∧ fr34 J I') ∧
    (∀ pos' a', nms T r k pos a = some (pos', a') → ∃ n' J', g_X3_readItem_35 q n v3 (nI (k + r)) (nI k) J = g_X3_readItem_106 n' q v3 J' ∧ n ≤ n' + r + 1 ∧ J' 3 1 = nI pos' ∧ (∀ j, j < k + r → J' 4 j = nI (a' j)) ∧ fr34 J J') := by
  have h400 := hT.1
  intro r
  induction r with
  | zero =>
    intro k n pos a J hk hp hn hX hJ ha
    obtain ⟨n, rfl⟩ : ∃ k, n = k + 1 := ⟨n - 1, by omega⟩
    refine ⟨fun h => (by cases h), fun pos' a' h => ?_⟩
    simp only [nms, Option.some.injEq, Prod.mk.injEq] at h
    obtain ⟨rfl, rfl⟩ := h
    refine ⟨n, J, ?_, by omega, hJ, ha, fun _ _ _ => rfl⟩
    simp only [g_X3_readItem_35]
    rw [if_pos (nI_le (by omega) (by omega))]
  | succ r ih =>
    intro k n pos a J hk hp hn hX hJ ha
    obtain ⟨n, rfl⟩ : ∃ k, n = k + 1 := ⟨n - 1, by omega⟩
    obtain ⟨D, hD⟩ : ∃ D, D = ndg T pos 4 := ⟨_, rfl⟩
    obtain ⟨g1, g2, g3⟩ := ndg_p (T := T) 4 pos
    rw [← hD] at g1 g2 g3
    obtain ⟨J1, b1, b2, b3, b4, b5⟩ := c_num_loop (d := min D 3) (x := k) hT (by omega) (by omega) (by omega) (fun j hj => g2 j (by omega)) (by
      by_cases c : 3 ≤ D
      · exact Or.inl (by omega)
      · refine Or.inr ?_
        rw [show min D 3 = D by omega]
        rcases g3 with h | h
        · omega
        · exact h) (min D 3) 0 n J (by omega) (by omega) hX hJ
    have hX1 : TxC J1 T len := fr34_x b5 hX
    have head : g_X3_readItem_35 q (n + 1) v3 (nI (k + (r + 1))) (nI k) J = if min D 3 = 0 then some (0, J1) else (if T (pos + min D 3) = (if r = 0 then 59 else 44) then g_X3_readItem_35 q n v3 (nI (k + (r + 1))) (nI (k + 1)) (up2 J1 3 1 (nI (pos + min D 3 + 1))) else some (0, J1)) := by
      simp only [g_X3_readItem_35, g_X3_readItem_85, g_X3_readNumber, bnd_eq]
      rw [if_neg (nI_ge (by omega) (by omega)), if_neg (by rw [show (6 : Int32) = nI 6 from rfl]; exact nI_ge (by omega) (by omega)), show g_X3_readNumber_5 n (nI k) 0 0 J = _ from b1]
      dsimp only
      by_cases c0 : min D 3 = 0
      · rw [if_pos c0, if_pos rfl, if_pos c0]
      · rw [if_neg c0, if_neg (by decide), if_neg c0, b2, c_at hT hX1 (by omega)]
        dsimp only
        rw [b2, nI_1, nI_1]
        by_cases hr : r = 0
        · rw [if_pos ((pred_eq (by omega)).mpr hr), if_pos hr]
          by_cases e : T (pos + min D 3) = 59
          · rw [if_pos ((ca_59 hT).mpr e), if_pos e]
          · rw [if_neg (fun x => e ((ca_59 hT).mp x)), if_neg e]
        · rw [if_neg (fun x => hr ((pred_eq (by omega)).mp x)), if_neg hr]
          by_cases e : T (pos + min D 3) = 44
          · rw [if_pos ((ca_44 hT).mpr e), if_pos e]
          · rw [if_neg (fun x => e ((ca_44 hT).mp x)), if_neg e]
    by_cases hc : 1 ≤ D ∧ D ≤ 3 ∧ T (pos + D) = (if r = 0 then 59 else 44)
    · have en : nms T (r + 1) k pos a = nms T r (k + 1) (pos + D + 1) (updN a k (vl T pos D)) := by
        rw [hD] at hc ⊢
        exact if_pos hc
      obtain ⟨c1, c2, c3⟩ := hc
      have e3 : min D 3 = D := by omega
      rw [e3] at b2 b3 head
      rw [if_neg (by omega), if_pos c3] at head
      have hl : pos + D < len := dgt_in hT (by rw [c3]; split <;> omega)
      have r0 := ih (k + 1) n (pos + D + 1) (updN a k (vl T pos D)) (up2 J1 3 1 (nI (pos + D + 1))) (by omega) (by omega) (by omega) ⟨by rw [up2_i _ _ (by omega)]; exact hX1.1, fun j hj => by rw [up2_i _ _ (by omega)]; exact hX1.2 j hj⟩ (up2_s _ _ _ _) (fun j hj => by
        rw [up2_i _ _ (by omega)]
        unfold updN
        by_cases c : j = k
        · subst c
          rw [if_pos rfl]; exact b3
        · rw [if_neg c, b4 j c]
          exact ha j (by omega))
      rw [show k + 1 + r = k + (r + 1) by omega] at r0
      have fr : fr34 J (up2 J1 3 1 (nI (pos + D + 1))) := fun id i1 i2 => by rw [up2_i _ _ i1, b5 id i1 i2]
      obtain ⟨r1, r2⟩ := r0
      rw [head, en]
      refine ⟨fun h => ?_, fun pos' a' h => ?_⟩
      · obtain ⟨I', x1, x2⟩ := r1 h
        exact ⟨I', x1, fr34_t fr x2⟩
      · obtain ⟨n', J', x1, x2, x3, x4, x5⟩ := r2 pos' a' h
        exact ⟨n', J', x1, by omega, x3, x4, fr34_t fr x5⟩
    · have en : nms T (r + 1) k pos a = none := by
        rw [hD] at hc
        exact if_neg hc
      have hh : g_X3_readItem_35 q (n + 1) v3 (nI (k + (r + 1))) (nI k) J = some (0, J1) := by
        rw [head]
        by_cases c0 : min D 3 = 0
        · rw [if_pos c0]
        · rw [if_neg c0, if_neg]
          intro e
          by_cases c4 : D ≤ 3
          · rw [show min D 3 = D by omega] at e
            exact hc ⟨by omega, c4, e⟩
          · have := g2 3 (by omega)
            rw [show min D 3 = 3 by omega] at e
            rw [dgt, e] at this
            split at this <;> omega
      rw [hh, en]
      exact ⟨fun _ => ⟨J1, rfl, b5⟩, fun _ _ h => by cases h⟩
/-! the reference reads -/
def frN (J I' : IH) : Prop := (∀ j, j ≠ 27 → I' 55 j = J 55 j) ∧ ∀ id, id ≠ 55 → id ≠ 80 → I' id = J id
theorem frN_r (I : IH) : frN I I := ⟨fun _ _ => rfl, fun _ _ _ => rfl⟩
theorem frN_t {I J K : IH} (h1 : frN I J) (h2 : frN J K) : frN I K := ⟨fun j h => (h2.1 j h).trans (h1.1 j h), fun id a b => (h2.2 id a b).trans (h1.2 id a b)⟩
theorem frN_x {I J : IH} (h : frN I J) {T : Nat → Nat} {len : Nat} (hx : TxM I T len) : TxM J T len := by
  obtain ⟨a, b⟩ := hx
  exact ⟨by rw [h.1 _ (by omega)]; exact a, fun j hj => by rw [h.2 _ (by omega) (by omega)]; exact b j hj⟩
theorem frN_27 (J : IH) (v : Int32) : frN J (up2 J 55 27 v) := ⟨fun j h => up2_j _ _ h, fun id h _ => up2_i _ _ h⟩
theorem in_4857 {n : Nat} {a : Int32} {I : IH} : g_X9_in n (Int32.toInt64 a) 48 57 I = some (if 48 ≤ a ∧ a ≤ 57 then 1 else 0, I) := by rw [j48, j57]; exact m_in
theorem m_num_loop {T : Nat → Nat} {len pos D : Nat} (hT : TXT T len) (hpos : pos ≤ 500) (hd : D ≤ 4) (h1 : ∀ j, j < D → dgt T (pos + j)) (h2 : D = 4 ∨ ¬ dgt T (pos + D)) {K : Int32 → Int32 → IH → Option (Int32 × IH)} {v1 v2 : Int32} :
    ∀ (r k n : Nat) (J : IH), k + r = D → r < n → TxM J T len → J 55 27 = nI (pos + k) →
    ∃ n' J', g_X9_figures_12 K n v1 v2 (nI k) (nI (vl T pos k)) J = g_X9_figures_73 n' K v1 v2 (nI D) (nI (vl T pos D)) J' ∧ J' 55 27 = nI (pos + D) ∧ J' 80 = J 80 ∧ frN J J' := by
  intro r
  induction r with
  | zero =>
    intro k n J hk hn hX hJ
    obtain ⟨n, rfl⟩ : ∃ k, n = k + 1 := ⟨n - 1, by omega⟩
    have e : k = D := by omega
    subst e
    refine ⟨n, J, ?_, hJ, rfl, frN_r _⟩
    simp only [g_X9_figures_12, bnd_eq]
    rw [hJ, m_at hT hX (by omega)]
    dsimp only
    rw [in_4857]
    dsimp only
    rw [r01]
    by_cases c : dgt T (pos + k)
    · have e4 : k = 4 := by
        rcases h2 with h | h
        · exact h
        · exact absurd c h
      rw [if_pos ((na_dig hT).mpr c), if_pos (by rw [show (4 : Int32) = nI 4 from rfl]; exact nI_le (by omega) (by omega))]
    · rw [if_neg (fun x => c ((na_dig hT).mp x))]
  | succ r ih =>
    intro k n J hk hn hX hJ
    obtain ⟨n, rfl⟩ : ∃ k, n = k + 1 := ⟨n - 1, by omega⟩
    have hdg := h1 k (by omega)
    obtain ⟨n', J', k1, k2, k3, k4⟩ := ih (k + 1) n (up2 J 55 27 (nI (pos + (k + 1)))) (by omega) (by omega) (frN_x (frN_27 _ _) hX) (up2_s _ _ _ _)
    refine ⟨n', J', ?_, k2, by rw [k3, up2_i _ _ (by omega)], frN_t (frN_27 _ _) k4⟩
    simp only [g_X9_figures_12, bnd_eq]
    rw [hJ, m_at hT hX (by omega)]
    dsimp only
    rw [in_4857]
    dsimp only
    rw [r01, if_pos ((na_dig hT).mpr hdg), if_neg (by rw [show (4 : Int32) = nI 4 from rfl]; exact nI_ge (by omega) (by omega)), hJ, m_at hT hX (by omega)]
    dsimp only
    rw [vl_s hdg, hJ, nI_1, nI_1, Nat.add_assoc]
    exact k1
theorem m_nms {T : Nat → Nat} {len : Nat} (hT : TXT T len) :
    ∀ (r k n pos : Nat) (a : Nat → Nat) (J : IH), k + r ≤ 6 → pos ≤ len → r + 10 < n → TxM J T len → J 55 27 = nI pos → (∀ j, j < k → J 80 j = nI (a j)) →
    (nms T r k pos a = none → ∃ I', g_X9_figures_2 n (nI (k + r)) (nI k) J = some (0, I') ∧ frN J I') ∧
    (∀ pos' a', nms T r k pos a = some (pos', a') → ∃ I', g_X9_figures_2 n (nI (k + r)) (nI k) J = some (1, I') ∧ I' 55 27 = nI pos' ∧ (∀ j, j < k + r → I' 80 j = nI (a' j)) ∧ frN J I') := by
  have h400 := hT.1
  intro r
  induction r with
  | zero =>
    intro k n pos a J hk hp hn hX hJ ha
    obtain ⟨n, rfl⟩ : ∃ k, n = k + 1 := ⟨n - 1, by omega⟩
    refine ⟨fun h => (by cases h), fun pos' a' h => ?_⟩
    simp only [nms, Option.some.injEq, Prod.mk.injEq] at h
    obtain ⟨rfl, rfl⟩ := h
    refine ⟨J, ?_, hJ, ha, frN_r _⟩
    simp only [g_X9_figures_2]
    rw [if_pos (nI_le (by omega) (by omega))]
  | succ r ih =>
    intro k n pos a J hk hp hn hX hJ ha
    obtain ⟨n, rfl⟩ : ∃ k, n = k + 1 := ⟨n - 1, by omega⟩
    obtain ⟨D, hD⟩ : ∃ D, D = ndg T pos 4 := ⟨_, rfl⟩
    obtain ⟨g1, g2, g3⟩ := ndg_p (T := T) 4 pos
    rw [← hD] at g1 g2 g3
    obtain ⟨n', J1, b1, b2, b3, b5⟩ := m_num_loop (K := g_X9_figures_2 n) (v1 := nI (k + (r + 1))) (v2 := nI k) hT (by omega) g1 g2 g3 D 0 n J (by omega) (by omega) hX hJ
    have hX1 : TxM J1 T len := frN_x b5 hX
    have hvb := vl_big hT (pos := pos) g1
    have head : g_X9_figures_2 (n + 1) (nI (k + (r + 1))) (nI k) J = if 1 ≤ D ∧ D ≤ 3 ∧ T (pos + D) = (if r = 0 then 59 else 44) then g_X9_figures_2 n (nI (k + (r + 1))) (nI (k + 1)) (up2 (up2 J1 80 k (nI (vl T pos D))) 55 27 (nI (pos + D + 1))) else some (0, J1) := by
      have hb := hT.2.1 (pos + D)
      simp only [g_X9_figures_2]
      rw [if_neg (nI_ge (by omega) (by omega)), show g_X9_figures_12 (g_X9_figures_2 n) n (nI (k + (r + 1))) (nI k) 0 0 J = _ from b1]
      simp only [g_X9_figures_73, g_X9_figures_107, bnd_eq]
      rw [in_13]
      dsimp only
      rw [r01]
      by_cases c0 : 1 ≤ D ∧ D ≤ 3
      · rw [if_pos ⟨by rw [li1]; exact nI_le c0.1 (by omega), by rw [li3]; exact nI_le c0.2 (by omega)⟩, b2, m_at hT hX1 (by omega)]
        dsimp only
        rw [up2_i J1 _ (by omega : (55 : Nat) ≠ 80), b2, nI_1, nI_1, inB_t (by omega : k < 6) (by omega), nI_clamp (by omega), show k + (r + 1) = k + r + 1 by omega, nI_pred]
        by_cases hr : r = 0
        · rw [if_pos (nI_le (by omega) (by omega)), if_pos hr]
          by_cases e : T (pos + D) = 59
          · rw [if_pos (by rw [e]; rfl), if_pos rfl, if_pos ⟨c0.1, c0.2, e⟩]
          · rw [if_neg (show ¬ nI (T (pos + D)) = 59 from fun x => e ((nI_eq (by omega) (by omega : (59 : Nat) < 2 ^ 31)).mp x)), if_neg (fun x => e x.2.2)]
        · rw [if_neg (nI_ge (by omega) (by omega)), if_neg hr]
          by_cases e : T (pos + D) = 44
          · rw [if_pos (by rw [e]; rfl), if_pos rfl, if_pos ⟨c0.1, c0.2, e⟩]
          · rw [if_neg (show ¬ nI (T (pos + D)) = 44 from fun x => e ((nI_eq (by omega) (by omega : (44 : Nat) < 2 ^ 31)).mp x)), if_neg (fun x => e x.2.2)]
      · rw [if_neg (fun x => c0 ⟨(nI_leI (by omega) (by omega)).mp x.1, (nI_leI (b := 3) (by omega) (by omega)).mp x.2⟩), if_neg (fun x => c0 ⟨x.1, x.2.1⟩)]
    by_cases hc : 1 ≤ D ∧ D ≤ 3 ∧ T (pos + D) = (if r = 0 then 59 else 44)
    · have en : nms T (r + 1) k pos a = nms T r (k + 1) (pos + D + 1) (updN a k (vl T pos D)) := by
        rw [hD] at hc ⊢
        exact if_pos hc
      rw [if_pos hc] at head
      obtain ⟨c1, c2, c3⟩ := hc
      have hl : pos + D < len := dgt_in hT (by rw [c3]; split <;> omega)
      have fr : frN J (up2 (up2 J1 80 k (nI (vl T pos D))) 55 27 (nI (pos + D + 1))) := frN_t b5 ⟨fun j h => by rw [up2_j _ _ h, up2_i _ _ (by omega)], fun id i1 i2 => by rw [up2_i _ _ i1, up2_i _ _ i2]⟩
      have r0 := ih (k + 1) n (pos + D + 1) (updN a k (vl T pos D)) (up2 (up2 J1 80 k (nI (vl T pos D))) 55 27 (nI (pos + D + 1))) (by omega) (by omega) (by omega) (frN_x fr hX) (up2_s _ _ _ _) (fun j hj => by
        rw [up2_i _ _ (by omega)]
        unfold updN
        by_cases c : j = k
        · subst c
          rw [if_pos rfl, up2_s]
        · rw [if_neg c, up2_j _ _ c, b3]
          exact ha j (by omega))
      rw [show k + 1 + r = k + (r + 1) by omega] at r0
      obtain ⟨r1, r2⟩ := r0
      rw [head, en]
      refine ⟨fun h => ?_, fun pos' a' h => ?_⟩
      · obtain ⟨I', x1, x2⟩ := r1 h
        exact ⟨I', x1, frN_t fr x2⟩
      · obtain ⟨I', x1, x3, x4, x5⟩ := r2 pos' a' h
        exact ⟨I', x1, x3, x4, frN_t fr x5⟩
    · have en : nms T (r + 1) k pos a = none := by
        rw [hD] at hc
        exact if_neg hc
      rw [if_neg hc] at head
      rw [head, en]
      exact ⟨fun _ => ⟨J1, rfl, b5⟩, fun _ _ h => by cases h⟩
