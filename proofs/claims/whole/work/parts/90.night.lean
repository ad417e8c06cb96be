/-! A night, in the class and in the reference. -/
def drw (z i k : Int32) : Int32 := (fun x1 : Int64 => Int64.toInt32 (((x1 * x1) - (x1 * x1) / 65521 * 65521) - ((x1 * x1) - (x1 * x1) / 65521 * 65521) / 1000 * 1000)) ((((7919 * (Int32.toInt64 z)) + (6151 * (Int32.toInt64 i))) + (3571 * (Int32.toInt64 k))) + 1)
theorem c_draw {n : Nat} {z i k : Int32} {I : IH} : g_X1_draw n z i k I = some (drw z i k, I) := rfl
theorem m_draw {n : Nat} {z i k : Int32} {I : IH} : g_X9_draw n z i k I = some (drw z i k, I) := rfl
/-- sand, lost, shards -/
abbrev Nx := (Nat → Nat) × Nat × Nat
def nst (π : Pln) (d : Int32) (i U : Nat) (x : Nx) : Nx :=
  if nI (π 15 0) ≤ d then
    (if nI (π 15 0) + nI (π 16 0) ≤ d then x
     else (updN x.1 (2 * i + bU U i) (x.1 (2 * i + bU U i) - min 3 (x.1 (2 * i + bU U i))), x.2.1 + min 3 (x.1 (2 * i + bU U i)), x.2.2))
  else (updN (updN x.1 (2 * i) 0) (2 * i + 1) 0, x.2.1 + (x.1 (2 * i) + x.1 (2 * i + 1)), x.2.2 ||| 2 ^ i)
def ngl (π : Pln) (z k U : Nat) (x : Nx) : Nat → Nx
  | 0 => x
  | g + 1 => if bU (ngl π z k U x g).2.2 g = 0 then nst π (drw (nI z) (nI g) (nI k)) g U (ngl π z k U x g) else ngl π z k U x g
def nmn (π : Pln) (z k m : Nat) (y : Nx × Nat) : Nx × Nat := ((fal π m (clk π m 99 0 y.2 (π 11 0)) (ngl π z k (clk π m 99 0 y.2 (π 11 0)) y.1 (π 0 0)).1 (π 0 0), (ngl π z k (clk π m 99 0 y.2 (π 11 0)) y.1 (π 0 0)).2), clk π m 99 0 y.2 (π 11 0))
/-- k minutes of a night -/
def nig (π : Pln) (z : Nat) (sa : Nat → Nat) (U m : Nat) : Nat → Nx × Nat
  | 0 => ((sa, 0, 0), U)
  | k + 1 => nmn π z k (m + k) (nig π z sa U m k)
theorem or_lt : ∀ M, M < 256 → ∀ i, i < 8 → M ||| 2 ^ i < 256 := by decide +kernel
theorem pcn_or : ∀ M, M < 256 → ∀ i, i < 8 → bU M i = 0 → pcn (M ||| 2 ^ i) 8 = pcn M 8 + 1 := by decide +kernel
theorem nst_V {π : Pln} (hG : π 0 0 ≤ 8) {d : Int32} {i U : Nat} (hi : i < π 0 0) {x : Nx} (h1 : tot x.1 (π 0 0) ≤ 20000) (h2 : x.2.2 < 256) : tot (nst π d i U x).1 (π 0 0) ≤ 20000 ∧ (nst π d i U x).2.2 < 256 := by
  obtain ⟨sa, l, M⟩ := x
  dsimp only at h1 h2
  have hb := bU_lt U i
  unfold nst
  dsimp only
  split
  · split
    · exact ⟨h1, h2⟩
    · refine ⟨?_, h2⟩
      have := (tot_updN (sa := sa) (f := 2 * i + bU U i) (v := sa (2 * i + bU U i) - min 3 (sa (2 * i + bU U i))) (π 0 0)).2 (by omega)
      dsimp only
      omega
  · refine ⟨?_, or_lt M h2 i (by omega)⟩
    have a1 := (tot_updN (sa := sa) (f := 2 * i) (v := 0) (π 0 0)).2 (by omega)
    have a2 := (tot_updN (sa := updN sa (2 * i) 0) (f := 2 * i + 1) (v := 0) (π 0 0)).2 (by omega)
    dsimp only
    omega
theorem ngl_V {π : Pln} (hG : π 0 0 ≤ 8) {z k U : Nat} {x : Nx} (h1 : tot x.1 (π 0 0) ≤ 20000) (h2 : x.2.2 < 256) : ∀ g, g ≤ π 0 0 → tot (ngl π z k U x g).1 (π 0 0) ≤ 20000 ∧ (ngl π z k U x g).2.2 < 256 := by
  intro g
  induction g with
  | zero => intro _; exact ⟨h1, h2⟩
  | succ g ih =>
    intro hg
    obtain ⟨i1, i2⟩ := ih (by omega)
    unfold ngl
    split
    · exact nst_V hG (by omega) i1 i2
    · exact ⟨i1, i2⟩
theorem nig_V {π : Pln} (hv : PV π) {z : Nat} {sa : Nat → Nat} {U m : Nat} (h1 : tot sa (π 0 0) ≤ 20000) (hU : U < 256) : ∀ k, tot (nig π z sa U m k).1.1 (π 0 0) ≤ 20000 ∧ (nig π z sa U m k).1.2.2 < 256 ∧ (nig π z sa U m k).2 < 256 := by
  intro k
  induction k with
  | zero => exact ⟨h1, by show 0 < 256; omega, hU⟩
  | succ k ih =>
    obtain ⟨i1, i2, i3⟩ := ih
    have hc := clk_lt hv (m := m + k) (lk := 99) (lb := 0) i3 (π 11 0) (Nat.le_refl _)
    obtain ⟨j1, j2⟩ := ngl_V hv.2.1 (z := z) (k := k) (U := clk π (m + k) 99 0 (nig π z sa U m k).2 (π 11 0)) i1 i2 (π 0 0) (Nat.le_refl _)
    refine ⟨?_, j2, hc⟩
    show tot (fal π _ _ _ (π 0 0)) (π 0 0) ≤ 20000
    rw [fal_tot]
    exact j1
theorem tV {G : Nat} {sa : Nat → Nat} {U m : Nat} (h1 : tot sa G ≤ 20000) (hU : U < 256) (hm : m ≤ 1100000) : ShV G sa U m := ⟨hU, hm, fun b hb => Nat.le_trans (tot_ge _ hb) h1⟩
theorem ShC_up {J : IH} {s G : Nat} {sa : Nat → Nat} {U m b v : Nat} (hS : ShC J s G sa U m) : ShC (up2 J (s + 1) b (nI v)) s G (updN sa b v) U m := by
  refine ⟨by rw [up2_i _ _ (by omega)]; exact hS.1, by rw [up2_i _ _ (by omega)]; exact hS.2.1, fun x hx => ?_⟩
  unfold updN
  by_cases h : x = b
  · subst h; rw [up2_s, if_pos rfl]
  · rw [up2_j _ _ h, if_neg h]; exact hS.2.2 x hx
theorem ShM_up {J : IH} {k G : Nat} {sa : Nat → Nat} {U m b v : Nat} (hS : ShM J k G sa U m) : ShM (up2 J 74 (16 * k + b) (nI v)) k G (updN sa b v) U m := by
  refine ⟨by rw [up2_i _ _ (by omega)]; exact hS.1, fun i hi => by rw [up2_i _ _ (by omega)]; exact hS.2.1 i hi, fun x hx => ?_⟩
  unfold updN
  by_cases h : x = b
  · subst h; rw [up2_s, if_pos rfl]
  · rw [up2_j _ _ (by omega), if_neg h]; exact hS.2.2 x hx
theorem ShC_47 {J : IH} {s G : Nat} {sa : Nat → Nat} {U m j : Nat} {v : Int32} (hs : s = 33) (hS : ShC J s G sa U m) : ShC (up2 J 47 j v) s G sa U m := ShC_congr (up2_i _ _ (by omega)) (up2_i _ _ (by omega)) hS
theorem ShM_55 {J : IH} {k G : Nat} {sa : Nat → Nat} {U m j : Nat} {v : Int32} (hS : ShM J k G sa U m) : ShM (up2 J 55 j v) k G sa U m := ⟨by rw [up2_i _ _ (by omega)]; exact hS.1, fun i hi => by rw [up2_i _ _ (by omega)]; exact hS.2.1 i hi, fun x hx => by rw [up2_i _ _ (by omega)]; exact hS.2.2 x hx⟩
theorem c_lose {n b c v l : Nat} {J : IH} (hb : b < 16) (hv : J 34 b = nI v) (hc : c ≤ v) (hl : J 47 0 = nI l) : g_X1_lose n (nI b) (nI c) J = some (up2 (up2 J 34 b (nI (v - c))) 47 0 (nI (l + c))) := by
  simp only [g_X1_lose, bnd_eq]
  rw [inB_t hb (by omega), if_pos rfl, if_pos rfl, nI_clamp (by omega), hv, pk_sub hc, up2_i _ _ (by omega : (47 : Nat) ≠ 34), hl, nI_add]
theorem min3 {a : Nat} (h : a < 2 ^ 31) : (if nI a < 3 then nI a else 3) = nI (min 3 a) := by
  rw [li3]
  exact min_nI (by omega) h
theorem c_befall {n q i : Nat} (hq : q = 5 ∨ q = 18) {π : Pln} (hv : PV π) {J : IH} (hP : PlC J q π) {x : Nx} {U m : Nat} {d : Int32} (hi : i < π 0 0) (hU : U < 256) (hx2 : x.2.2 < 256) (hb : bU x.2.2 i = 0) (hx : tot x.1 (π 0 0) ≤ 20000) (hS : ShC J 33 (π 0 0) x.1 U m) (h0 : J 47 0 = nI x.2.1) (h1 : J 47 1 = nI (pcn x.2.2 8)) (h2 : J 47 2 = nI x.2.2) :
    ∃ J', g_X1_befall n q (nI i) d J = some J' ∧ ShC J' 33 (π 0 0) (nst π d i U x).1 U m ∧ J' 47 0 = nI (nst π d i U x).2.1 ∧ J' 47 1 = nI (pcn (nst π d i U x).2.2 8) ∧ J' 47 2 = nI (nst π d i U x).2.2 ∧ ∀ id, id ≠ 34 → id ≠ 47 → J' id = J id := by
  have hG := hv.2.1
  have e15 : J q 15 = nI (π 15 0) := hP.2.2.2.2.2.1
  have e16 : J q 16 = nI (π 16 0) := hP.2.2.2.2.2.2
  have hbU := bU_lt U i
  obtain ⟨sa, l, M⟩ := x
  dsimp only at hx2 hb hx hS h0 h1 h2
  by_cases c1 : nI (π 15 0) ≤ d
  · by_cases c2 : nI (π 15 0) + nI (π 16 0) ≤ d
    · have key : nst π d i U (sa, l, M) = (sa, l, M) := by unfold nst; rw [if_pos c1, if_pos c2]
      rw [key]
      refine ⟨J, ?_, hS, h0, h1, h2, fun _ _ _ => rfl⟩
      simp only [g_X1_befall]
      rw [e15, e16, if_pos c1, if_pos c2]
    · have key : nst π d i U (sa, l, M) = (updN sa (2 * i + bU U i) (sa (2 * i + bU U i) - min 3 (sa (2 * i + bU U i))), l + min 3 (sa (2 * i + bU U i)), M) := by unfold nst; rw [if_pos c1, if_neg c2]
      rw [key]
      have ht := tot_ge (sa := sa) (b := 2 * i + bU U i) (π 0 0) (by omega)
      refine ⟨up2 (up2 J 34 (2 * i + bU U i) (nI (sa (2 * i + bU U i) - min 3 (sa (2 * i + bU U i))))) 47 0 (nI (l + min 3 (sa (2 * i + bU U i)))), ?_, ShC_47 rfl (ShC_up hS), up2_s _ _ _ _, ?_, ?_, fun id w1 w2 => by rw [up2_i _ _ w2, up2_i _ _ w1]⟩
      · simp only [g_X1_befall, bnd_eq]
        rw [e15, e16, if_pos c1, if_neg c2, c_upperBulb hS.1 hU (by omega)]
        dsimp only
        rw [inB_t (by omega : 2 * i + bU U i < 16) (by omega), if_pos rfl, nI_clamp (by omega), hS.2.2 _ (by omega), min3 (by omega), c_lose (by omega) (hS.2.2 _ (by omega)) (Nat.min_le_right _ _) h0]
      · rw [up2_j _ _ (by omega), up2_i _ _ (by omega)]; exact h1
      · rw [up2_j _ _ (by omega), up2_i _ _ (by omega)]; exact h2
  · have key : nst π d i U (sa, l, M) = (updN (updN sa (2 * i) 0) (2 * i + 1) 0, l + (sa (2 * i) + sa (2 * i + 1)), M ||| 2 ^ i) := by unfold nst; rw [if_neg c1]
    rw [key]
    have hA : ∀ b, b < 2 * π 0 0 → (up2 (up2 J 47 2 (nI (M ||| 2 ^ i))) 47 1 (nI (pcn M 8 + 1))) 34 b = nI (sa b) := fun b hb => by
      rw [up2_i _ _ (by omega), up2_i _ _ (by omega)]; exact hS.2.2 b hb
    have l1 := c_lose (n := n) (b := 2 * i) (c := sa (2 * i)) (v := sa (2 * i)) (l := l) (J := up2 (up2 J 47 2 (nI (M ||| 2 ^ i))) 47 1 (nI (pcn M 8 + 1))) (by omega) (hA _ (by omega)) (Nat.le_refl _) (by rw [up2_j _ _ (by omega), up2_j _ _ (by omega)]; exact h0)
    have s1 : ShC (up2 (up2 (up2 (up2 J 47 2 (nI (M ||| 2 ^ i))) 47 1 (nI (pcn M 8 + 1))) 34 (2 * i) (nI (sa (2 * i) - sa (2 * i)))) 47 0 (nI (l + sa (2 * i)))) 33 (π 0 0) (updN sa (2 * i) 0) U m := by
      rw [Nat.sub_self]
      exact ShC_47 rfl (ShC_up (ShC_47 rfl (ShC_47 rfl hS)))
    have hB : (up2 (up2 (up2 (up2 J 47 2 (nI (M ||| 2 ^ i))) 47 1 (nI (pcn M 8 + 1))) 34 (2 * i) (nI (sa (2 * i) - sa (2 * i)))) 47 0 (nI (l + sa (2 * i)))) 34 (2 * i + 1) = nI (sa (2 * i + 1)) := by
      rw [s1.2.2 _ (by omega)]
      unfold updN
      rw [if_neg (by omega)]
    have l2 := c_lose (n := n) (b := 2 * i + 1) (c := sa (2 * i + 1)) (v := sa (2 * i + 1)) (l := l + sa (2 * i)) (by omega) hB (Nat.le_refl _) (up2_s _ _ _ _)
    refine ⟨up2 (up2 (up2 (up2 (up2 (up2 J 47 2 (nI (M ||| 2 ^ i))) 47 1 (nI (pcn M 8 + 1))) 34 (2 * i) (nI (sa (2 * i) - sa (2 * i)))) 47 0 (nI (l + sa (2 * i)))) 34 (2 * i + 1) (nI (sa (2 * i + 1) - sa (2 * i + 1)))) 47 0 (nI (l + sa (2 * i) + sa (2 * i + 1))), ?_, ?_, ?_, ?_, ?_, ?_⟩
    · simp only [g_X1_befall, bnd_eq]
      rw [e15, e16, if_neg c1, nI_pow (by omega), up2_j _ _ (by omega : (1 : Nat) ≠ 2), h2, h1, nI_or, nI_1, li2, pk_mul, nI_1, inB_t (by omega : 2 * i < 16) (by omega), if_pos rfl, nI_clamp (by omega), hA _ (by omega), l1]
      dsimp only
      rw [inB_t (by omega : 2 * i + 1 < 16) (by omega), if_pos rfl, nI_clamp (by omega), hB, l2]
    · rw [Nat.sub_self (sa (2 * i + 1))]
      exact ShC_47 rfl (ShC_up s1)
    · rw [up2_s, Nat.add_assoc]
    · rw [up2_j _ _ (by omega), up2_i _ _ (by omega), up2_j _ _ (by omega), up2_i _ _ (by omega), up2_s, pcn_or M hx2 i (by omega) hb]
    · rw [up2_j _ _ (by omega), up2_i _ _ (by omega), up2_j _ _ (by omega), up2_i _ _ (by omega), up2_j _ _ (by omega), up2_s]
    · intro id w1 w2
      rw [up2_i _ _ w2, up2_i _ _ w1, up2_i _ _ w2, up2_i _ _ w1, up2_i _ _ w2, up2_i _ _ w2]
theorem c_pass_in {q : Nat} (hq : q = 5 ∨ q = 18) {π : Pln} (hv : PV π) {z k t U m : Nat} {x : Nx} (hU : U < 256) (hm : m ≤ 1100000) (hx : tot x.1 (π 0 0) ≤ 20000) (hx2 : x.2.2 < 256) {K : Int32 → Int32 → Int32 → IH → Option IH} :
    ∀ (d g n : Nat) (J : IH), g + d = π 0 0 → d + 20 < n → PlC J q π → ShC J 33 (π 0 0) (ngl π z k U x g).1 U m → J 47 0 = nI (ngl π z k U x g).2.1 → J 47 1 = nI (pcn (ngl π z k U x g).2.2 8) → J 47 2 = nI (ngl π z k U x g).2.2 →
    ∃ J', g_X1_pass_35 q K n (nI z) (nI t) (nI k) (nI g) J = K (nI z) (nI t) (nI (k + 1)) J' ∧ ShC J' 33 (π 0 0) (fal π m U (ngl π z k U x (π 0 0)).1 (π 0 0)) U (m + 1) ∧ J' 47 0 = nI (ngl π z k U x (π 0 0)).2.1 ∧ J' 47 1 = nI (pcn (ngl π z k U x (π 0 0)).2.2 8) ∧ J' 47 2 = nI (ngl π z k U x (π 0 0)).2.2 ∧ ∀ id, id ≠ 33 → id ≠ 34 → id ≠ 47 → J' id = J id := by
  have hG := hv.2.1
  intro d
  induction d with
  | zero =>
    intro g n J hg hn hP hS h0 h1 h2
    obtain ⟨n, rfl⟩ : ∃ k, n = k + 1 := ⟨n - 1, by omega⟩
    have e : g = π 0 0 := by omega
    subst e
    obtain ⟨v1, v2⟩ := ngl_V hG (z := z) (k := k) (U := U) hx hx2 (π 0 0) (Nat.le_refl _)
    obtain ⟨J', a1, a2, a3⟩ := c_fall (n := n) (s := 33) (by omega) hq (by omega) hv hP hS (tV v1 hU hm)
    refine ⟨J', ?_, a2, ?_, ?_, ?_, fun id w1 w2 _ => a3 id w1 w2⟩
    · simp only [g_X1_pass_35, bnd_eq]
      rw [hP.1, if_pos (nI_le (Nat.le_refl _) (by omega)), a1, nI_1]
    · rw [a3 _ (by omega) (by omega)]; exact h0
    · rw [a3 _ (by omega) (by omega)]; exact h1
    · rw [a3 _ (by omega) (by omega)]; exact h2
  | succ d ih =>
    intro g n J hg hn hP hS h0 h1 h2
    obtain ⟨n, rfl⟩ : ∃ k, n = k + 1 := ⟨n - 1, by omega⟩
    obtain ⟨v1, v2⟩ := ngl_V hG (z := z) (k := k) (U := U) hx hx2 g (by omega)
    have hbit := bU_lt (ngl π z k U x g).2.2 g
    by_cases c : bU (ngl π z k U x g).2.2 g = 0
    · have e : ngl π z k U x (g + 1) = nst π (drw (nI z) (nI g) (nI k)) g U (ngl π z k U x g) := if_pos c
      obtain ⟨J1, a1, a2, a3, a4, a5, a6⟩ := c_befall (n := n) (d := drw (nI z) (nI g) (nI k)) (i := g) hq hv hP (by omega) hU v2 c v1 hS h0 h1 h2
      rw [← e] at a2 a3 a4 a5
      obtain ⟨J', b1, b2, b3, b4, b5, b6⟩ := ih (g + 1) n J1 (by omega) (by omega) (PlC_congr (fun j hj => a6 _ (by omega) (by omega)) hP) a2 a3 a4 a5
      refine ⟨J', ?_, b2, b3, b4, b5, fun id w1 w2 w3 => by rw [b6 id w1 w2 w3, a6 id w2 w3]⟩
      simp only [g_X1_pass_35, g_X1_pass_72, bnd_eq]
      rw [hP.1, if_neg (nI_ge (by omega) (by omega)), h2, nI_bit (by omega) (by omega), c, if_pos nI_0, c_draw]
      dsimp only
      rw [a1]
      dsimp only
      rw [nI_1]
      exact b1
    · have e : ngl π z k U x (g + 1) = ngl π z k U x g := if_neg c
      obtain ⟨J', b1, b2, b3, b4, b5, b6⟩ := ih (g + 1) n J (by omega) (by omega) hP (by rw [e]; exact hS) (by rw [e]; exact h0) (by rw [e]; exact h1) (by rw [e]; exact h2)
      refine ⟨J', ?_, b2, b3, b4, b5, b6⟩
      simp only [g_X1_pass_35, g_X1_pass_72, bnd_eq]
      rw [hP.1, if_neg (nI_ge (by omega) (by omega)), h2, nI_bit (by omega) (by omega), if_neg (nI_ne0 (by omega) (by omega)), nI_1]
      exact b1
theorem c_pass_loop {q : Nat} (hq : q = 5 ∨ q = 18) {π : Pln} (hv : PV π) {z t U m : Nat} {sa : Nat → Nat} (hU : U < 256) (hm : m + t ≤ 1100000) (hx : tot sa (π 0 0) ≤ 20000) :
    ∀ (d k n : Nat) (J : IH), k + d = t → d + 40 < n → PlC J q π → TuC J q π → ShC J 33 (π 0 0) (nig π z sa U m k).1.1 (nig π z sa U m k).2 (m + k) → J 47 0 = nI (nig π z sa U m k).1.2.1 → J 47 1 = nI (pcn (nig π z sa U m k).1.2.2 8) → J 47 2 = nI (nig π z sa U m k).1.2.2 →
    ∃ I', g_X1_pass_18 q n (nI z) (nI t) (nI k) J = some I' ∧ ShC I' 33 (π 0 0) (nig π z sa U m t).1.1 (nig π z sa U m t).2 (m + t) ∧ I' 47 0 = nI (nig π z sa U m t).1.2.1 ∧ I' 47 1 = nI (pcn (nig π z sa U m t).1.2.2 8) ∧ ∀ id, id ≠ 33 → id ≠ 34 → id ≠ 47 → I' id = J id := by
  have hG := hv.2.1
  intro d
  induction d with
  | zero =>
    intro k n J hk hn hP hT hS h0 h1 h2
    obtain ⟨n, rfl⟩ : ∃ k, n = k + 1 := ⟨n - 1, by omega⟩
    simp only [g_X1_pass_18]
    rw [if_pos (nI_le (by omega) (by omega))]
    have e : t = k := by omega
    subst e
    exact ⟨J, rfl, hS, h0, h1, fun _ _ _ _ => rfl⟩
  | succ d ih =>
    intro k n J hk hn hP hT hS h0 h1 h2
    obtain ⟨n, rfl⟩ : ∃ k, n = k + 1 := ⟨n - 1, by omega⟩
    obtain ⟨v1, v2, v3⟩ := nig_V hv (z := z) (m := m) hx hU k
    obtain ⟨J1, a1, a2, a3⟩ := c_clerks (n := n) (s := 33) (by omega) (by omega) hq hv v3 (by omega) nobody (lb := 0) (by omega) hP hT hS
    have hc := clk_lt hv (m := m + k) (lk := 99) (lb := 0) v3 (π 11 0) (Nat.le_refl _)
    have hP1 : PlC J1 q π := PlC_congr (fun j hj => a3 _ (by omega)) hP
    obtain ⟨J2, b1, b2, b3, b4, b5, b6⟩ := c_pass_in (t := t) (z := z) (k := k) (K := g_X1_pass_18 q n) hq hv hc (by omega : m + k ≤ 1100000) v1 v2 (π 0 0) 0 n J1 (by omega) (by omega) hP1 a2 (by rw [a3 _ (by omega)]; exact h0) (by rw [a3 _ (by omega)]; exact h1) (by rw [a3 _ (by omega)]; exact h2)
    obtain ⟨I', k1, k2, k3, k4, k5⟩ := ih (k + 1) n J2 (by omega) (by omega) (PlC_congr (fun j hj => b6 _ (by omega) (by omega) (by omega)) hP1) (fun x hx => by rw [b6 _ (by omega) (by omega) (by omega), a3 _ (by omega)]; exact hT x hx) b2 b3 b4 b5
    refine ⟨I', ?_, k2, k3, k4, fun id w1 w2 w3 => by rw [k5 id w1 w2 w3, b6 id w1 w2 w3, a3 id w1]⟩
    simp only [g_X1_pass_18]
    rw [if_neg (nI_ge (by omega) (by omega)), show g_X5_letClerksTurn n 33 q (-1) 0 J = some J1 from a1]
    dsimp only
    rw [show g_X1_pass_35 q (g_X1_pass_18 q n) n (nI z) (nI t) (nI k) 0 J1 = _ from b1]
    exact k1
theorem c_night {p n : Nat} (hp : p = 5 ∨ p = 18) {π : Pln} (hv : PV π) {z t U m : Nat} {sa : Nat → Nat} (hn : t + 60 ≤ n) (hU : U < 256) (hm : m + t ≤ 1100000) (hx : tot sa (π 0 0) ≤ 20000) {I : IH} (hP : PlC I p π) (hT : TuC I p π) (hS : ShC I 31 (π 0 0) sa U m) :
    ∃ I', g_X8_passNight n p (nI z) (nI t) I = some I' ∧ ShC I' 33 (π 0 0) (nig π z sa U m t).1.1 (nig π z sa U m t).2 (m + t) ∧ I' 47 0 = nI (nig π z sa U m t).1.2.1 ∧ I' 47 1 = nI (pcn (nig π z sa U m t).1.2.2 8) ∧ ∀ id, id ≠ 33 → id ≠ 34 → id ≠ 47 → I' id = I id := by
  obtain ⟨J1, a1, a2, a3⟩ := c_copy (n := n) (s := 33) (o := 31) (by omega) (by omega) (by omega) hv.2.1 hS
  have f : ∀ id, id ≠ 33 → id ≠ 34 → id ≠ 47 → up2 (up2 (up2 J1 47 0 0) 47 1 0) 47 2 0 id = I id := fun id w1 w2 w3 => by rw [up2_i _ _ w3, up2_i _ _ w3, up2_i _ _ w3, a3 id w1 w2]
  obtain ⟨I', k1, k2, k3, k4, k5⟩ := c_pass_loop (z := z) (m := m) hp hv hU hm hx t 0 n (up2 (up2 (up2 J1 47 0 0) 47 1 0) 47 2 0) (by omega) (by omega) (PlC_congr (fun j hj => f _ (by omega) (by omega) (by omega)) hP) (fun x hx => by rw [f _ (by omega) (by omega) (by omega)]; exact hT x hx) (ShC_47 rfl (ShC_47 rfl (ShC_47 rfl a2))) (by rw [up2_j _ _ (by omega), up2_j _ _ (by omega), up2_s]; rfl) (by rw [up2_j _ _ (by omega), up2_s]; exact (by decide +kernel : (0 : Int32) = nI (pcn 0 8))) (by rw [up2_s]; rfl)
  refine ⟨I', ?_, k2, k3, k4, fun id w1 w2 w3 => by rw [k5 id w1 w2 w3, f id w1 w2 w3]⟩
  simp only [g_X8_passNight, g_X1_pass, bnd_eq]
  rw [a1]
  dsimp only
  rw [show g_X1_pass_18 p n (nI z) (nI t) 0 _ = _ from k1]
