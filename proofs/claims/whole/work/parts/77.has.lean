/-! What a hand has; copies of shelves. -/
def hlf (π : Pln) (sa : Nat → Nat) (i : Nat) : Nat := if π 1 i = 2 then sa (2 * i) / 2 else 0
def hso (π : Pln) (sa : Nat → Nat) (h i : Nat) : Nat := (if π 4 i = h then sa (2 * i) - hlf π sa i else 0) + (if π 3 i = h then hlf π sa i else 0) + (if π 5 i = h then sa (2 * i + 1) else 0)
def hss (π : Pln) (sa : Nat → Nat) (h : Nat) : Nat → Nat
  | 0 => 0
  | g + 1 => hss π sa h g + hso π sa h g
theorem hlf_le (π : Pln) (sa : Nat → Nat) (i : Nat) : hlf π sa i ≤ sa (2 * i) := by
  unfold hlf
  split <;> omega
theorem hso_le {π : Pln} {sa : Nat → Nat} {G : Nat} (hs : ∀ b, b < 2 * G → sa b ≤ 20000) {h i : Nat} (hi : i < G) : hso π sa h i ≤ 60000 := by
  have h1 := hs (2 * i) (by omega)
  have h2 := hs (2 * i + 1) (by omega)
  have h3 := hlf_le π sa i
  unfold hso
  split <;> split <;> split <;> omega
theorem hss_le {π : Pln} {sa : Nat → Nat} {G : Nat} (hs : ∀ b, b < 2 * G → sa b ≤ 20000) {h : Nat} : ∀ g, g ≤ G → hss π sa h g ≤ 60000 * g := by
  intro g
  induction g with
  | zero => intro _; exact Nat.zero_le _
  | succ g ih =>
    intro hg
    have := ih (by omega)
    have := hso_le (π := π) (h := h) hs (i := g) (by omega)
    unfold hss
    omega
theorem nIe {a b : Nat} (ha : a < 2 ^ 31) (hb : b < 2 ^ 31) {α : Type} (x y : α) : (if nI a = nI b then x else y) = if a = b then x else y := by
  by_cases h : a = b
  · rw [if_pos h, if_pos (by rw [h])]
  · rw [if_neg h, if_neg (fun q => h ((nI_eq ha hb).mp q))]
set_option maxHeartbeats 1000000 in
theorem c_has_loop {s q : Nat} {π : Pln} (hv : PV π) {I : IH} (hP : PlC I q π) {sa : Nat → Nat} {U m : Nat} (hS : ShC I s (π 0 0) sa U m) (hV : ShV (π 0 0) sa U m) {h : Nat} (hh : h ≤ 5) :
    ∀ (d g n : Nat), g + d = π 0 0 → d < n → g_X5_grainsOf_5 s q n (nI h) (nI (hss π sa h g)) (nI g) I = some (nI (hss π sa h (π 0 0)), I) := by
  have hG8 := hv.2.1
  intro d
  induction d with
  | zero =>
    intro g n hg hn
    obtain ⟨n, rfl⟩ : ∃ k, n = k + 1 := ⟨n - 1, by omega⟩
    simp only [g_X5_grainsOf_5]
    rw [if_pos (by rw [hP.1]; exact nI_le (by omega) (by omega)), show g = π 0 0 by omega]
  | succ d ih =>
    intro g n hg hn
    obtain ⟨n, rfl⟩ : ∃ k, n = k + 1 := ⟨n - 1, by omega⟩
    have hgG : g < π 0 0 := by omega
    obtain ⟨v1, v2, v3, v4, v5, v6, v7, v8⟩ := hv.2.2.1 g hgG
    obtain ⟨p1, p2, p3, p4, p5, -⟩ := hP.2.1 g hgG
    have b1 := hV.2.2 (2 * g) (by omega)
    have b2 := hV.2.2 (2 * g + 1) (by omega)
    have b3 := hlf_le π sa g
    have b4 := hss_le (π := π) (h := h) hV.2.2 g (by omega)
    have k := ih (g + 1) n (by omega) (by omega)
    have e1 : (2 : Int32) * nI g = nI (2 * g) := by rw [li2, pk_mul]
    have e2 : nI (2 * g) + 1 = nI (2 * g + 1) := nI_1 _
    have c1 : inB (nI (2 * g)) 16 = true := inB_t (by omega) (by omega)
    have c2 : inB (nI (2 * g + 1)) 16 = true := inB_t (by omega) (by omega)
    have c3 : inB (nI g) 8 = true := inB_t (by omega) (by omega)
    simp only [g_X5_grainsOf_5, g_X5_grainsOf_44, g_X5_grainsOf_67, g_X5_grainsOf_83, g_X5_grainsOf_112, bnd_eq, e1, e2, c1, c2, c3, if_pos]
    rw [if_neg (by rw [hP.1]; exact nI_ge hgG (by omega)), nI_clamp (by omega : 2 * g < 2 ^ 31), nI_clamp (by omega : g < 2 ^ 31), nI_clamp (by omega : 2 * g + 1 < 2 ^ 31), hS.2.2 _ (by omega), hS.2.2 _ (by omega), p1, p3, p4, p5, nI_1]
    have e3 : ∀ t : Nat, (if nI (π 1 g) = 2 then nI (sa (2 * g)) / 2 else 0) = nI (hlf π sa g) := by
      intro _
      rw [li2, nIe (by omega) (by omega), pk_div (by omega) (by omega) (by omega)]
      unfold hlf
      split <;> rfl
    have key : (if nI (π 4 g) = nI h then if nI (π 3 g) = nI h then if nI (π 5 g) = nI h then g_X5_grainsOf_5 s q n (nI h) (nI (hss π sa h g) + (nI (sa (2 * g)) - nI (hlf π sa g)) + nI (hlf π sa g) + nI (sa (2 * g + 1))) (nI (g + 1)) I else g_X5_grainsOf_5 s q n (nI h) (nI (hss π sa h g) + (nI (sa (2 * g)) - nI (hlf π sa g)) + nI (hlf π sa g)) (nI (g + 1)) I else if nI (π 5 g) = nI h then g_X5_grainsOf_5 s q n (nI h) (nI (hss π sa h g) + (nI (sa (2 * g)) - nI (hlf π sa g)) + nI (sa (2 * g + 1))) (nI (g + 1)) I else g_X5_grainsOf_5 s q n (nI h) (nI (hss π sa h g) + (nI (sa (2 * g)) - nI (hlf π sa g))) (nI (g + 1)) I else if nI (π 3 g) = nI h then if nI (π 5 g) = nI h then g_X5_grainsOf_5 s q n (nI h) (nI (hss π sa h g) + nI (hlf π sa g) + nI (sa (2 * g + 1))) (nI (g + 1)) I else g_X5_grainsOf_5 s q n (nI h) (nI (hss π sa h g) + nI (hlf π sa g)) (nI (g + 1)) I else if nI (π 5 g) = nI h then g_X5_grainsOf_5 s q n (nI h) (nI (hss π sa h g) + nI (sa (2 * g + 1))) (nI (g + 1)) I else g_X5_grainsOf_5 s q n (nI h) (nI (hss π sa h g)) (nI (g + 1)) I) = some (nI (hss π sa h (π 0 0)), I) := by
      rw [show hss π sa h (g + 1) = hss π sa h g + hso π sa h g from rfl] at k
      unfold hso at k
      simp only [nIe (a := π 4 g) (b := h) (by omega) (by omega), nIe (a := π 3 g) (b := h) (by omega) (by omega), nIe (a := π 5 g) (b := h) (by omega) (by omega), pk_sub b3, nI_add]
      by_cases h4 : π 4 g = h
      · by_cases h3 : π 3 g = h
        · by_cases h5 : π 5 g = h
          · simp only [h4, h3, h5, if_pos] at k ⊢; rw [← k]; congr 2; omega
          · simp only [h4, h3, h5, if_pos, if_false] at k ⊢; rw [← k]; congr 2; omega
        · by_cases h5 : π 5 g = h
          · simp only [h4, h3, h5, if_pos, if_false] at k ⊢; rw [← k]; congr 2; omega
          · simp only [h4, h3, h5, if_pos, if_false] at k ⊢; rw [← k]; congr 2
      · by_cases h3 : π 3 g = h
        · by_cases h5 : π 5 g = h
          · simp only [h4, h3, h5, if_pos, if_false] at k ⊢; rw [← k]; congr 2; omega
          · simp only [h4, h3, h5, if_pos, if_false] at k ⊢; rw [← k]; congr 2; omega
        · by_cases h5 : π 5 g = h
          · simp only [h4, h3, h5, if_pos, if_false] at k ⊢; rw [← k]; congr 2; omega
          · simp only [h4, h3, h5, if_false] at k ⊢; exact k
    by_cases hk : nI (π 1 g) = 2
    · have e4 := e3 0
      rw [if_pos hk] at e4
      rw [if_pos hk, e4]
      exact key
    · have e4 := e3 0
      rw [if_neg hk] at e4
      rw [if_neg hk, e4]
      exact key
/-- grainsOf -/
theorem c_has {s q n h : Nat} (hn : 9 ≤ n) {π : Pln} (hv : PV π) {I : IH} (hP : PlC I q π) {sa : Nat → Nat} {U m : Nat} (hS : ShC I s (π 0 0) sa U m) (hV : ShV (π 0 0) sa U m) (hh : h ≤ 5) : g_X5_grainsOf n s q (nI h) I = some (nI (hss π sa h (π 0 0)), I) := by
  have hG8 := hv.2.1
  simp only [g_X5_grainsOf]
  exact c_has_loop hv hP hS hV hh (π 0 0) 0 n (by omega) (by omega)
set_option maxHeartbeats 1000000 in
theorem m_has_loop {b : Nat} (hb : b ≤ 3) {π : Pln} (hv : PV π) {I : IH} (hP : PlM I 0 π) {sa : Nat → Nat} {U m : Nat} (hS : ShM I b (π 0 0) sa U m) (hV : ShV (π 0 0) sa U m) {h : Nat} (hh : h ≤ 5) :
    ∀ (d g n : Nat), g + d = π 0 0 → d < n → g_X9_hasOf_5 n (nI b) (nI h) (nI (hss π sa h g)) (nI g) I = some (nI (hss π sa h (π 0 0)), I) := by
  have hG8 := hv.2.1
  intro d
  induction d with
  | zero =>
    intro g n hg hn
    obtain ⟨n, rfl⟩ : ∃ k, n = k + 1 := ⟨n - 1, by omega⟩
    simp only [g_X9_hasOf_5, bnd_eq]
    rw [hP.1, if_pos (nI_le (by omega) (by omega)), show g = π 0 0 by omega]
  | succ d ih =>
    intro g n hg hn
    obtain ⟨n, rfl⟩ : ∃ k, n = k + 1 := ⟨n - 1, by omega⟩
    have hgG : g < π 0 0 := by omega
    obtain ⟨v1, v2, v3, v4, v5, v6, v7, v8⟩ := hv.2.2.1 g hgG
    obtain ⟨p1, p2, p3, p4, p5, -⟩ := hP.2.1 g hgG
    rw [Nat.mul_zero, Nat.zero_add] at p1 p3 p4 p5
    have b1 := hV.2.2 (2 * g) (by omega)
    have b2 := hV.2.2 (2 * g + 1) (by omega)
    have b3 := hlf_le π sa g
    have b4 := hss_le (π := π) (h := h) hV.2.2 g (by omega)
    have k := ih (g + 1) n (by omega) (by omega)
    have e1 : (16 : Int32) * nI b + 2 * nI g = nI (16 * b + 2 * g) := by rw [li16, li2, pk_mul, pk_mul, nI_add]
    have e2 : nI (16 * b + 2 * g) + 1 = nI (16 * b + 2 * g + 1) := nI_1 _
    have c1 : inB (nI (16 * b + 2 * g)) 64 = true := inB_t (by omega) (by omega)
    have c2 : inB (nI (16 * b + 2 * g + 1)) 64 = true := inB_t (by omega) (by omega)
    have c3 : inB (nI g) 16 = true := inB_t (by omega) (by omega)
    simp only [g_X9_hasOf_5, g_X9_hasOf_51, g_X9_hasOf_71, g_X9_hasOf_94, g_X9_hasOf_128, bnd_eq, e1, e2, c1, c2, c3, if_pos]
    rw [hP.1, if_neg (nI_ge hgG (by omega)), nI_clamp (by omega : 16 * b + 2 * g < 2 ^ 31), nI_clamp (by omega : g < 2 ^ 31), nI_clamp (by omega : 16 * b + 2 * g + 1 < 2 ^ 31), hS.2.2 _ (by omega), Nat.add_assoc, hS.2.2 _ (by omega), p1, p3, p4, p5, nI_1]
    have e3 : (if nI (π 1 g) = 2 then nI (sa (2 * g)) / 2 else 0) = nI (hlf π sa g) := by
      rw [li2, nIe (by omega) (by omega), pk_div (by omega) (by omega) (by omega)]
      unfold hlf
      split <;> rfl
    have key : (if nI (π 3 g) = nI h then if nI (π 4 g) = nI h then if nI (π 5 g) = nI h then g_X9_hasOf_5 n (nI b) (nI h) (nI (hss π sa h g) + nI (hlf π sa g) + (nI (sa (2 * g)) - nI (hlf π sa g)) + nI (sa (2 * g + 1))) (nI (g + 1)) I else g_X9_hasOf_5 n (nI b) (nI h) (nI (hss π sa h g) + nI (hlf π sa g) + (nI (sa (2 * g)) - nI (hlf π sa g)) + 0) (nI (g + 1)) I else if nI (π 5 g) = nI h then g_X9_hasOf_5 n (nI b) (nI h) (nI (hss π sa h g) + nI (hlf π sa g) + 0 + nI (sa (2 * g + 1))) (nI (g + 1)) I else g_X9_hasOf_5 n (nI b) (nI h) (nI (hss π sa h g) + nI (hlf π sa g) + 0 + 0) (nI (g + 1)) I else if nI (π 4 g) = nI h then if nI (π 5 g) = nI h then g_X9_hasOf_5 n (nI b) (nI h) (nI (hss π sa h g) + 0 + (nI (sa (2 * g)) - nI (hlf π sa g)) + nI (sa (2 * g + 1))) (nI (g + 1)) I else g_X9_hasOf_5 n (nI b) (nI h) (nI (hss π sa h g) + 0 + (nI (sa (2 * g)) - nI (hlf π sa g)) + 0) (nI (g + 1)) I else if nI (π 5 g) = nI h then g_X9_hasOf_5 n (nI b) (nI h) (nI (hss π sa h g) + 0 + 0 + nI (sa (2 * g + 1))) (nI (g + 1)) I else g_X9_hasOf_5 n (nI b) (nI h) (nI (hss π sa h g) + 0 + 0 + 0) (nI (g + 1)) I) = some (nI (hss π sa h (π 0 0)), I) := by
      rw [show hss π sa h (g + 1) = hss π sa h g + hso π sa h g from rfl] at k
      unfold hso at k
      simp only [nIe (a := π 4 g) (b := h) (by omega) (by omega), nIe (a := π 3 g) (b := h) (by omega) (by omega), nIe (a := π 5 g) (b := h) (by omega) (by omega), pk_sub b3, nI_add, Int32.add_zero]
      by_cases h4 : π 4 g = h
      · by_cases h3 : π 3 g = h
        · by_cases h5 : π 5 g = h
          · simp only [h4, h3, h5, if_pos] at k ⊢; rw [← k]; congr 2; omega
          · simp only [h4, h3, h5, if_pos, if_false] at k ⊢; rw [← k]; congr 2; omega
        · by_cases h5 : π 5 g = h
          · simp only [h4, h3, h5, if_pos, if_false] at k ⊢; rw [← k]; congr 2; omega
          · simp only [h4, h3, h5, if_pos, if_false] at k ⊢; rw [← k]; congr 2
      · by_cases h3 : π 3 g = h
        · by_cases h5 : π 5 g = h
          · simp only [h4, h3, h5, if_pos, if_false] at k ⊢; rw [← k]; congr 2; omega
          · simp only [h4, h3, h5, if_pos, if_false] at k ⊢; rw [← k]; congr 2; omega
        · by_cases h5 : π 5 g = h
          · simp only [h4, h3, h5, if_pos, if_false] at k ⊢; rw [← k]; congr 2; omega
          · simp only [h4, h3, h5, if_false] at k ⊢; exact k
    by_cases hk : nI (π 1 g) = 2
    · rw [if_pos hk] at e3
      rw [if_pos hk, e3]
      exact key
    · rw [if_neg hk] at e3
      rw [← e3] at key
      rw [if_neg hk]
      exact key
/-- hasOf -/
theorem m_has {b n h : Nat} (hn : 9 ≤ n) (hb : b ≤ 3) {π : Pln} (hv : PV π) {I : IH} (hP : PlM I 0 π) {sa : Nat → Nat} {U m : Nat} (hS : ShM I b (π 0 0) sa U m) (hV : ShV (π 0 0) sa U m) (hh : h ≤ 5) : g_X9_hasOf n (nI b) (nI h) I = some (nI (hss π sa h (π 0 0)), I) := by
  have hG8 := hv.2.1
  simp only [g_X9_hasOf]
  exact m_has_loop hb hv hP hS hV hh (π 0 0) 0 n (by omega) (by omega)
