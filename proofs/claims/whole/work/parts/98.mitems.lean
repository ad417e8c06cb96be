/-! the reference adds, into book 1 -/
def frR (J I' : IH) : Prop := (∀ j, j ≠ 27 → I' 55 j = J 55 j) ∧ (∀ id, 57 ≤ id → id ≤ 73 → id ≠ 67 → I' id 0 = J id 0) ∧ (∀ id j, (58 ≤ id ∧ id ≤ 64) ∨ (69 ≤ id ∧ id ≤ 71) → j < 8 → I' id j = J id j) ∧ ∀ id, id ≠ 55 → id ≠ 80 → id ≠ 67 → (id < 57 ∨ id = 66 ∨ 73 < id) → I' id = J id
theorem frR_t {I J K : IH} (h1 : frR I J) (h2 : frR J K) : frR I K := ⟨fun j h => (h2.1 j h).trans (h1.1 j h), fun id x y z => (h2.2.1 id x y z).trans (h1.2.1 id x y z), fun id j x y => (h2.2.2.1 id j x y).trans (h1.2.2.1 id j x y), fun id a b c d => (h2.2.2.2 id a b c d).trans (h1.2.2.2 id a b c d)⟩
theorem frN_R {I J : IH} (h : frN I J) : frR I J := ⟨h.1, fun id _ _ _ => by rw [h.2 id (by omega) (by omega)], fun id j _ _ => by rw [h.2 id (by omega) (by omega)], fun id a b _ _ => h.2 id a b⟩
theorem frN_P {I J : IH} (h : frN I J) {π : Pln} (hP : PlM I 1 π) : PlM J 1 π := PlM_congr (by omega) (fun j _ _ => h.2 j (by omega) (by omega)) hP
theorem up_R {J : IH} {id j : Nat} {v : Int32} (h : ((58 ≤ id ∧ id ≤ 64) ∨ (69 ≤ id ∧ id ≤ 71)) ∧ 8 ≤ j ∨ ((id = 57 ∨ id = 65 ∨ id = 68 ∨ id = 72 ∨ id = 73) ∧ 1 ≤ j) ∨ id = 67) : frR J (up2 J id j v) := by
  refine ⟨fun k _ => by rw [up2_i _ _ (by omega)], fun i a b c => ?_, fun i k a b => ?_, fun i a b c d => up2_i _ _ (by omega)⟩
  · by_cases e : i = id
    · subst e
      exact up2_j _ _ (by omega)
    · rw [up2_i _ _ e]
  · by_cases e : i = id
    · subst e
      exact up2_j _ _ (by omega)
    · rw [up2_i _ _ e]
theorem m_figs {T : Nat → Nat} {len : Nat} (hT : TXT T len) {r n pos : Nat} {J : IH} (hr : r ≤ 6) (hp : pos ≤ len) (hn : 20 < n) (hX : TxM J T len) (hJ : J 55 27 = nI pos) :
    (nms T r 0 pos (fun _ => 0) = none → ∃ I', g_X9_figures n (nI r) J = some (0, I') ∧ frN J I') ∧
    (∀ pos' a', nms T r 0 pos (fun _ => 0) = some (pos', a') → ∃ I', g_X9_figures n (nI r) J = some (1, I') ∧ I' 55 27 = nI pos' ∧ (∀ j, j < r → I' 80 j = nI (a' j)) ∧ frN J I') := by
  have h := m_nms hT r 0 n pos (fun _ => 0) J (by omega) hp (by omega) hX hJ (fun j hj => absurd hj (Nat.not_lt_zero _))
  rw [Nat.zero_add] at h
  simp only [g_X9_figures]
  exact h
theorem lt_c {x N : Nat} (hx : x ≤ 999) (hN : N < 2 ^ 31) : (nI N < nI x) ↔ ¬ x ≤ N := by
  rw [nI_ltI hN (by omega)]
  omega
theorem l3_c {x : Nat} (hx : x ≤ 999) : ((3 : Int32) < nI x) ↔ ¬ x ≤ 3 := lt_c (N := 3) hx (by omega)
theorem l5_c {x : Nat} (hx : x ≤ 999) : ((5 : Int32) < nI x) ↔ ¬ x ≤ 5 := lt_c (N := 5) hx (by omega)
theorem l99_c {x : Nat} (hx : x ≤ 999) : ((99 : Int32) < nI x) ↔ ¬ x ≤ 99 := lt_c (N := 99) hx (by omega)
theorem e99_c {x : Nat} (hx : x ≤ 999) : (nI x ≤ (99 : Int32)) ↔ x ≤ 99 := nI_leI (b := 99) (by omega) (by omega)
theorem e5_c {x : Nat} (hx : x ≤ 999) : (nI x ≤ (5 : Int32)) ↔ x ≤ 5 := nI_leI (b := 5) (by omega) (by omega)
theorem e8_c {x : Nat} (hx : x ≤ 8) : (nI x = (8 : Int32)) ↔ ¬ x < 8 := by
  rw [li8, nI_eq (by omega) (by omega)]
  omega
theorem in_160 {n : Nat} {a : Int32} {I : IH} : g_X9_in n (Int32.toInt64 a) 1 60 I = some (if 1 ≤ a ∧ a ≤ 60 then 1 else 0, I) := by rw [j1, j60]; exact m_in
theorem in_199 {n : Nat} {a : Int32} {I : IH} : g_X9_in n (Int32.toInt64 a) 1 99 I = some (if 1 ≤ a ∧ a ≤ 99 then 1 else 0, I) := by rw [j1, j99]; exact m_in
/-- how an item ends -/
def mEnd (g : Option (Int32 × IH)) (J : IH) (o : Option Pln) (pos' : Nat) : Prop := (o = none → ∃ I', g = some (0, I') ∧ frR J I') ∧ ∀ π', o = some π' → ∃ I', g = some (1, I') ∧ I' 55 27 = nI pos' ∧ PlM I' 1 π' ∧ frR J I'
def chMG (J : IH) (G : Nat) (a : Nat → Nat) : IH := up2 (up2 (up2 (up2 (up2 (up2 (up2 (up2 J 58 (8 + G) (nI (a 0))) 59 (8 + G) (nI (a 1))) 60 (8 + G) (nI (a 2))) 61 (8 + G) (nI (a 3))) 62 (8 + G) (nI (a 4))) 63 (8 + G) (nI (a 5))) 64 (8 + G) (nI (a 1))) 57 1 (nI (G + 1))
theorem chMG_R {J : IH} {G : Nat} {a : Nat → Nat} : frR J (chMG J G a) := by
  unfold chMG
  exact frR_t (frR_t (frR_t (frR_t (frR_t (frR_t (frR_t (up_R (by omega)) (up_R (by omega))) (up_R (by omega))) (up_R (by omega))) (up_R (by omega))) (up_R (by omega))) (up_R (by omega))) (up_R (by omega))
theorem chMG_P {J : IH} {π : Pln} {a : Nat → Nat} (hP : PlM J 1 π) : PlM (chMG J (π 0 0) a) 1 (adG π a) := by
  obtain ⟨p1, p2, p3, p4, p5, p6, p7, p8⟩ := hP
  have o : ∀ id, id ≠ 57 → ¬ (58 ≤ id ∧ id ≤ 64) → chMG J (π 0 0) a id = J id := fun id h1 h2 => by
    unfold chMG
    rw [up2_i _ _ (by omega), up2_i _ _ (by omega), up2_i _ _ (by omega), up2_i _ _ (by omega), up2_i _ _ (by omega), up2_i _ _ (by omega), up2_i _ _ (by omega), up2_i _ _ (by omega)]
  have e58 : ∀ i, chMG J (π 0 0) a 58 (8 * 1 + i) = if i = π 0 0 then nI (a 0) else J 58 (8 * 1 + i) := fun i => by simp [chMG, up2]
  have e59 : ∀ i, chMG J (π 0 0) a 59 (8 * 1 + i) = if i = π 0 0 then nI (a 1) else J 59 (8 * 1 + i) := fun i => by simp [chMG, up2]
  have e60 : ∀ i, chMG J (π 0 0) a 60 (8 * 1 + i) = if i = π 0 0 then nI (a 2) else J 60 (8 * 1 + i) := fun i => by simp [chMG, up2]
  have e61 : ∀ i, chMG J (π 0 0) a 61 (8 * 1 + i) = if i = π 0 0 then nI (a 3) else J 61 (8 * 1 + i) := fun i => by simp [chMG, up2]
  have e62 : ∀ i, chMG J (π 0 0) a 62 (8 * 1 + i) = if i = π 0 0 then nI (a 4) else J 62 (8 * 1 + i) := fun i => by simp [chMG, up2]
  have e63 : ∀ i, chMG J (π 0 0) a 63 (8 * 1 + i) = if i = π 0 0 then nI (a 5) else J 63 (8 * 1 + i) := fun i => by simp [chMG, up2]
  have e64 : ∀ i, chMG J (π 0 0) a 64 (8 * 1 + i) = if i = π 0 0 then nI (a 1) else J 64 (8 * 1 + i) := fun i => by simp [chMG, up2]
  unfold PlM
  rw [adG_0, adG_o (f := 8) (by omega), adG_o (f := 9) (by omega), adG_o (f := 10) (by omega), adG_o (f := 11) (by omega), adG_o (f := 12) (by omega), adG_o (f := 13) (by omega), adG_o (f := 14) (by omega), adG_o (f := 15) (by omega), adG_o (f := 16) (by omega), o 65 (by omega) (by omega), o (66 + 1) (by omega) (by omega), o 68 (by omega) (by omega), o 69 (by omega) (by omega), o 70 (by omega) (by omega), o 71 (by omega) (by omega), o 72 (by omega) (by omega), o 73 (by omega) (by omega)]
  refine ⟨up2_s _ _ _ _, fun i hi => ?_, p3, p4, p5, p6, p7, p8⟩
  rw [e58, e59, e60, e61, e62, e63, e64, adG_1, adG_2, adG_3, adG_4, adG_5, adG_6, adG_7]
  by_cases c : i = π 0 0
  · simp only [if_pos c]
    exact ⟨trivial, trivial, trivial, trivial, trivial, trivial, trivial⟩
  · simp only [if_neg c]
    exact p2 i (by omega)
theorem m_glass {T : Nat → Nat} {len : Nat} (hT : TXT T len) {n pos pos' : Nat} {J : IH} {π : Pln} {a : Nat → Nat} (hp : pos ≤ len) (hn : 20 < n) (hX : TxM J T len) (hJ : J 55 27 = nI pos) (hv : PVd π) (hP : PlM J 1 π) (he : nms T 6 0 pos (fun _ => 0) = some (pos', a)) : mEnd (g_X9_glassItem n J) J (if okG π a then some (adG π a) else none) pos' := by
  have v1 := hv.1
  obtain ⟨-, -, ha⟩ := nms_p hT 6 0 pos (fun _ => 0) pos' a he hp (fun _ => Nat.zero_le _)
  obtain ⟨K, k1, k2, k3, k4⟩ := (m_figs hT (by omega) hp hn hX hJ).2 pos' a he
  have kR := frN_R k4
  have hP' := frN_P k4 hP
  have p1 := hP'.1
  have hne : ¬ okG π a → mEnd (some (0, K)) J (if okG π a then some (adG π a) else none) pos' := fun h => by
    rw [if_neg h]
    exact ⟨fun _ => ⟨K, rfl, kR⟩, fun _ h => (by cases h)⟩
  simp only [g_X9_glassItem, bnd_eq]
  rw [show g_X9_figures n 6 J = some (1, K) from k1]
  dsimp only
  rw [if_neg (by decide), p1, k3 0 (by omega), k3 1 (by omega), k3 2 (by omega), k3 3 (by omega)]
  by_cases c1 : π 0 0 < 8
  case neg => rw [if_pos ((e8_c v1).mpr c1)]; exact hne (fun h => c1 h.1)
  rw [if_neg (fun x => (e8_c v1).mp x c1)]
  by_cases c2 : a 0 ≤ 3
  case neg => rw [if_pos ((l3_c (ha 0)).mpr c2)]; exact hne (fun h => c2 h.2.1)
  rw [if_neg (fun x => (l3_c (ha 0)).mp x c2)]
  by_cases c3 : a 1 ≤ 5
  case neg => rw [if_pos ((l5_c (ha 1)).mpr c3)]; exact hne (fun h => c3 h.2.2.1)
  rw [if_neg (fun x => (l5_c (ha 1)).mp x c3)]
  by_cases c4 : a 2 ≤ 5
  case neg => rw [if_pos ((l5_c (ha 2)).mpr c4)]; exact hne (fun h => c4 h.2.2.2.1)
  rw [if_neg (fun x => (l5_c (ha 2)).mp x c4), in_160]
  dsimp only
  rw [r01]
  by_cases c5 : 1 ≤ a 3 ∧ a 3 ≤ 60
  case neg => rw [if_neg (fun x => c5 ((i1_60 (ha 3)).mp x))]; exact hne (fun h => c5 h.2.2.2.2)
  rw [if_pos ((i1_60 (ha 3)).mpr c5), if_pos (show okG π a from ⟨c1, c2, c3, c4, c5.1, c5.2⟩)]
  have x8 : (8 : Int32) + J 57 1 = nI (8 + π 0 0) := by rw [hP.1, li8, nI_add]
  have hb : inB (nI (8 + π 0 0)) 16 = true := inB_t (by omega) (by omega)
  have hc : (nI (8 + π 0 0)).toNatClampNeg = 8 + π 0 0 := nI_clamp (by omega)
  simp only [x8, hb, hc, ↓reduceIte, up2_i _ _ (show (80 : Nat) ≠ 58 by decide), up2_i _ _ (show (80 : Nat) ≠ 59 by decide), up2_i _ _ (show (80 : Nat) ≠ 60 by decide), up2_i _ _ (show (80 : Nat) ≠ 61 by decide), up2_i _ _ (show (80 : Nat) ≠ 62 by decide), up2_i _ _ (show (80 : Nat) ≠ 63 by decide), up2_i _ _ (show (57 : Nat) ≠ 58 by decide), up2_i _ _ (show (57 : Nat) ≠ 59 by decide), up2_i _ _ (show (57 : Nat) ≠ 60 by decide), up2_i _ _ (show (57 : Nat) ≠ 61 by decide), up2_i _ _ (show (57 : Nat) ≠ 62 by decide), up2_i _ _ (show (57 : Nat) ≠ 63 by decide), up2_i _ _ (show (57 : Nat) ≠ 64 by decide)]
  rw [p1, k3 0 (by omega), k3 1 (by omega), k3 2 (by omega), k3 3 (by omega), k3 4 (by omega), k3 5 (by omega), nI_1]
  refine ⟨fun h => (by cases h), fun π' h => ?_⟩
  cases h
  refine ⟨chMG K (π 0 0) a, rfl, ?_, chMG_P hP', frR_t kR chMG_R⟩
  unfold chMG
  rw [up2_i _ _ (by omega), up2_i _ _ (by omega), up2_i _ _ (by omega), up2_i _ _ (by omega), up2_i _ _ (by omega), up2_i _ _ (by omega), up2_i _ _ (by omega), up2_i _ _ (by omega)]
  exact k2
def chMT (J : IH) (z : Nat) (a : Nat → Nat) : IH := up2 (up2 (up2 J 67 (2 * z) (nI (a 0))) 67 (2 * z + 1) (nI (a 1))) 65 1 (nI (z + 1))
theorem chMT_P {J : IH} {π : Pln} {a : Nat → Nat} (hP : PlM J 1 π) : PlM (chMT J (π 8 0) a) 1 (adT π a) := by
  obtain ⟨p1, p2, p3, p4, p5, p6, p7, p8⟩ := hP
  have o : ∀ id, id ≠ 67 → id ≠ 65 → chMT J (π 8 0) a id = J id := fun id h1 h2 => by
    unfold chMT
    rw [up2_i _ _ (by omega), up2_i _ _ (by omega), up2_i _ _ (by omega)]
  have e67 : ∀ j, chMT J (π 8 0) a 67 j = if j = 2 * π 8 0 + 1 then nI (a 1) else if j = 2 * π 8 0 then nI (a 0) else J 67 j := fun i => by simp [chMT, up2]
  unfold PlM
  rw [adT_8, adT_o (f := 0) (by omega), adT_o (f := 1) (by omega), adT_o (f := 2) (by omega), adT_o (f := 3) (by omega), adT_o (f := 4) (by omega), adT_o (f := 5) (by omega), adT_o (f := 6) (by omega), adT_o (f := 7) (by omega), adT_o (f := 11) (by omega), adT_o (f := 12) (by omega), adT_o (f := 13) (by omega), adT_o (f := 14) (by omega), adT_o (f := 15) (by omega), adT_o (f := 16) (by omega), o 57 (by omega) (by omega), o 58 (by omega) (by omega), o 59 (by omega) (by omega), o 60 (by omega) (by omega), o 61 (by omega) (by omega), o 62 (by omega) (by omega), o 63 (by omega) (by omega), o 64 (by omega) (by omega), o 68 (by omega) (by omega), o 69 (by omega) (by omega), o 70 (by omega) (by omega), o 71 (by omega) (by omega), o 72 (by omega) (by omega), o 73 (by omega) (by omega)]
  refine ⟨p1, p2, up2_s _ _ _ _, fun k hk => ?_, p5, p6, p7, p8⟩
  rw [show 66 + 1 = 67 from rfl, e67, e67, adT_9, adT_10]
  by_cases c : k = π 8 0
  · rw [if_neg (by omega : ¬ 2 * k = 2 * π 8 0 + 1), if_pos (by omega : 2 * k = 2 * π 8 0), if_pos (by omega : 2 * k + 1 = 2 * π 8 0 + 1), if_pos c, if_pos c]
    exact ⟨rfl, rfl⟩
  · rw [if_neg (by omega : ¬ 2 * k = 2 * π 8 0 + 1), if_neg (by omega : ¬ 2 * k = 2 * π 8 0), if_neg (by omega : ¬ 2 * k + 1 = 2 * π 8 0 + 1), if_neg (by omega : ¬ 2 * k + 1 = 2 * π 8 0), if_neg c, if_neg c]
    exact p4 k (by omega)
theorem m_tie {T : Nat → Nat} {len : Nat} (hT : TXT T len) {n pos pos' : Nat} {J : IH} {π : Pln} {a : Nat → Nat} (hp : pos ≤ len) (hn : 20 < n) (hX : TxM J T len) (hJ : J 55 27 = nI pos) (hv : PVd π) (hP : PlM J 1 π) (he : nms T 2 0 pos (fun _ => 0) = some (pos', a)) : mEnd (g_X9_tieItem n J) J (if okT π a then some (adT π a) else none) pos' := by
  have v1 := hv.1
  have v3 := hv.2.2.1
  obtain ⟨-, -, ha⟩ := nms_p hT 2 0 pos (fun _ => 0) pos' a he hp (fun _ => Nat.zero_le _)
  have a0 := ha 0
  have a1 := ha 1
  obtain ⟨K, k1, k2, k3, k4⟩ := (m_figs hT (by omega) hp hn hX hJ).2 pos' a he
  have kR := frN_R k4
  have hP' := frN_P k4 hP
  have p1 := hP'.1
  have p3 := hP'.2.2.1
  have hne : ¬ okT π a → mEnd (some (0, K)) J (if okT π a then some (adT π a) else none) pos' := fun h => by
    rw [if_neg h]
    exact ⟨fun _ => ⟨K, rfl, kR⟩, fun _ h => (by cases h)⟩
  simp only [g_X9_tieItem, bnd_eq]
  rw [show g_X9_figures n 2 J = some (1, K) from k1]
  dsimp only
  rw [if_neg (by decide), p1, p3, k3 0 (by omega), k3 1 (by omega)]
  by_cases c1 : π 8 0 < 8
  case neg => rw [if_pos ((e8_c v3).mpr c1)]; exact hne (fun h => c1 h.1)
  rw [if_neg (fun x => (e8_c v3).mp x c1)]
  by_cases c2 : a 0 < π 0 0
  case neg => rw [if_pos (nI_le (by omega) (by omega))]; exact hne (fun h => c2 h.2.1)
  rw [if_neg (nI_ge c2 (by omega))]
  by_cases c3 : a 1 < π 0 0
  case neg => rw [if_pos (nI_le (by omega) (by omega))]; exact hne (fun h => c3 h.2.2.1)
  rw [if_neg (nI_ge c3 (by omega))]
  by_cases c4 : a 0 = a 1
  case pos => rw [if_pos (by rw [c4])]; exact hne (fun h => h.2.2.2 c4)
  rw [if_neg (fun x => c4 ((nI_eq (by omega) (by omega)).mp x)), if_pos (show okT π a from ⟨c1, c2, c3, c4⟩)]
  have x2 : (2 : Int32) * J 65 1 = nI (2 * π 8 0) := by rw [hP.2.2.1, li2, pk_mul]
  have hb : inB (nI (2 * π 8 0)) 16 = true := inB_t (by omega) (by omega)
  have hc : (nI (2 * π 8 0)).toNatClampNeg = 2 * π 8 0 := nI_clamp (by omega)
  have hb1 : inB (nI (2 * π 8 0 + 1)) 16 = true := inB_t (by omega) (by omega)
  have hc1 : (nI (2 * π 8 0 + 1)).toNatClampNeg = 2 * π 8 0 + 1 := nI_clamp (by omega)
  simp only [x2, nI_1, hb, hc, hb1, hc1, ↓reduceIte, up2_i _ _ (show (80 : Nat) ≠ 67 by decide), up2_i _ _ (show (65 : Nat) ≠ 67 by decide)]
  rw [p3, k3 1 (by omega), nI_1]
  refine ⟨fun h => (by cases h), fun π' h => ?_⟩
  cases h
  refine ⟨chMT K (π 8 0) a, rfl, ?_, chMT_P hP', frR_t kR ?_⟩
  · unfold chMT
    rw [up2_i _ _ (by omega), up2_i _ _ (by omega), up2_i _ _ (by omega)]
    exact k2
  · unfold chMT
    exact frR_t (frR_t (up_R (by omega)) (up_R (by omega))) (up_R (by omega))
def chMC (J : IH) (z : Nat) (a : Nat → Nat) : IH := up2 (up2 (up2 (up2 J 69 (8 + z) (nI (a 0))) 70 (8 + z) (nI (a 1))) 71 (8 + z) (nI (a 2))) 68 1 (nI (z + 1))
theorem chMC_P {J : IH} {π : Pln} {a : Nat → Nat} (hP : PlM J 1 π) : PlM (chMC J (π 11 0) a) 1 (adC π a) := by
  obtain ⟨p1, p2, p3, p4, p5, p6, p7, p8⟩ := hP
  have o : ∀ id, id < 68 ∨ 71 < id → chMC J (π 11 0) a id = J id := fun id h1 => by
    unfold chMC
    rw [up2_i _ _ (by omega), up2_i _ _ (by omega), up2_i _ _ (by omega), up2_i _ _ (by omega)]
  have e69 : ∀ i, chMC J (π 11 0) a 69 (8 * 1 + i) = if i = π 11 0 then nI (a 0) else J 69 (8 * 1 + i) := fun i => by simp [chMC, up2]
  have e70 : ∀ i, chMC J (π 11 0) a 70 (8 * 1 + i) = if i = π 11 0 then nI (a 1) else J 70 (8 * 1 + i) := fun i => by simp [chMC, up2]
  have e71 : ∀ i, chMC J (π 11 0) a 71 (8 * 1 + i) = if i = π 11 0 then nI (a 2) else J 71 (8 * 1 + i) := fun i => by simp [chMC, up2]
  unfold PlM
  rw [adC_11, adC_o (f := 0) (by omega), adC_o (f := 1) (by omega), adC_o (f := 2) (by omega), adC_o (f := 3) (by omega), adC_o (f := 4) (by omega), adC_o (f := 5) (by omega), adC_o (f := 6) (by omega), adC_o (f := 7) (by omega), adC_o (f := 8) (by omega), adC_o (f := 9) (by omega), adC_o (f := 10) (by omega), adC_o (f := 15) (by omega), adC_o (f := 16) (by omega), o 57 (by omega), o 58 (by omega), o 59 (by omega), o 60 (by omega), o 61 (by omega), o 62 (by omega), o 63 (by omega), o 64 (by omega), o 65 (by omega), o (66 + 1) (by omega), o 72 (by omega), o 73 (by omega)]
  refine ⟨p1, p2, p3, p4, up2_s _ _ _ _, fun k hk => ?_, p7, p8⟩
  rw [e69, e70, e71, adC_12, adC_13, adC_14]
  by_cases c : k = π 11 0
  · simp only [if_pos c]
    exact ⟨trivial, trivial, trivial⟩
  · simp only [if_neg c]
    exact p6 k (by omega)
theorem m_clerk {T : Nat → Nat} {len : Nat} (hT : TXT T len) {n pos pos' : Nat} {J : IH} {π : Pln} {a : Nat → Nat} (hp : pos ≤ len) (hn : 20 < n) (hX : TxM J T len) (hJ : J 55 27 = nI pos) (hv : PVd π) (hP : PlM J 1 π) (he : nms T 3 0 pos (fun _ => 0) = some (pos', a)) : mEnd (g_X9_clerkItem n J) J (if okC π a then some (adC π a) else none) pos' := by
  have v1 := hv.1
  have v5 := hv.2.2.2.2.1
  obtain ⟨-, -, ha⟩ := nms_p hT 3 0 pos (fun _ => 0) pos' a he hp (fun _ => Nat.zero_le _)
  have a0 := ha 0
  have a1 := ha 1
  have a2 := ha 2
  obtain ⟨K, k1, k2, k3, k4⟩ := (m_figs hT (by omega) hp hn hX hJ).2 pos' a he
  have kR := frN_R k4
  have hP' := frN_P k4 hP
  have p1 := hP'.1
  have p5 := hP'.2.2.2.2.1
  have hne : ¬ okC π a → mEnd (some (0, K)) J (if okC π a then some (adC π a) else none) pos' := fun h => by
    rw [if_neg h]
    exact ⟨fun _ => ⟨K, rfl, kR⟩, fun _ h => (by cases h)⟩
  simp only [g_X9_clerkItem, bnd_eq]
  rw [show g_X9_figures n 3 J = some (1, K) from k1]
  dsimp only
  rw [if_neg (by decide), p1, p5, k3 0 (by omega), k3 1 (by omega)]
  by_cases c1 : π 11 0 < 8
  case neg => rw [if_pos ((e8_c v5).mpr c1)]; exact hne (fun h => c1 h.1)
  rw [if_neg (fun x => (e8_c v5).mp x c1)]
  by_cases c2 : a 0 < π 0 0
  case neg => rw [if_pos (nI_le (by omega) (by omega))]; exact hne (fun h => c2 h.2.1)
  rw [if_neg (nI_ge c2 (by omega)), in_199]
  dsimp only
  rw [r01]
  by_cases c3 : 1 ≤ a 1 ∧ a 1 ≤ 99
  case neg => rw [if_neg (fun x => c3 ((i1_99 a1).mp x))]; exact hne (fun h => c3 ⟨h.2.2.1, h.2.2.2.1⟩)
  rw [if_pos ((i1_99 a1).mpr c3), k3 2 (by omega)]
  by_cases c4 : a 2 ≤ 99
  case neg => rw [if_neg (fun x => c4 ((e99_c a2).mp x))]; exact hne (fun h => c4 h.2.2.2.2)
  rw [if_pos ((e99_c a2).mpr c4), if_pos (show okC π a from ⟨c1, c2, c3.1, c3.2, c4⟩)]
  have x8 : (8 : Int32) + J 68 1 = nI (8 + π 11 0) := by rw [hP.2.2.2.2.1, li8, nI_add]
  have hb : inB (nI (8 + π 11 0)) 16 = true := inB_t (by omega) (by omega)
  have hc : (nI (8 + π 11 0)).toNatClampNeg = 8 + π 11 0 := nI_clamp (by omega)
  simp only [x8, hb, hc, ↓reduceIte, up2_i _ _ (show (80 : Nat) ≠ 69 by decide), up2_i _ _ (show (80 : Nat) ≠ 70 by decide), up2_i _ _ (show (68 : Nat) ≠ 69 by decide), up2_i _ _ (show (68 : Nat) ≠ 70 by decide), up2_i _ _ (show (68 : Nat) ≠ 71 by decide)]
  rw [p5, k3 0 (by omega), k3 1 (by omega), k3 2 (by omega), nI_1]
  refine ⟨fun h => (by cases h), fun π' h => ?_⟩
  cases h
  refine ⟨chMC K (π 11 0) a, rfl, ?_, chMC_P hP', frR_t kR ?_⟩
  · unfold chMC
    rw [up2_i _ _ (by omega), up2_i _ _ (by omega), up2_i _ _ (by omega), up2_i _ _ (by omega)]
    exact k2
  · unfold chMC
    exact frR_t (frR_t (frR_t (up_R (by omega)) (up_R (by omega))) (up_R (by omega))) (up_R (by omega))
