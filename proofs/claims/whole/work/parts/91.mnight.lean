/-! A night in the reference; night, nightHas. -/
theorem Sm_nt {p : Nat} (hp : p = 5 ∨ p = 18) {J J' : IH} (h1 : ∀ j, j < 16 ∨ 32 ≤ j → J' 74 j = J 74 j) (h2 : ∀ j, j ≠ 34 → j ≠ 35 → J' 55 j = J 55 j) (h3 : ∀ id, id ≠ 74 → id ≠ 55 → J' id = J id) : Sm p J J' := by
  refine ⟨fun id hid => h3 id (by omega) (by omega), ⟨h2 _ (by omega) (by omega), h2 _ (by omega) (by omega), h2 _ (by omega) (by omega), h2 _ (by omega) (by omega)⟩, fun id _ _ => ?_, fun id j _ _ => ?_, fun j hj => h1 j hj, fun j _ => ?_, fun j _ => ?_⟩ <;> rw [h3 _ (by omega) (by omega)]
theorem Sm_47 {p : Nat} (hp : p = 5 ∨ p = 18) {I I' : IH} (h : ∀ id, id ≠ 33 → id ≠ 34 → id ≠ 47 → I' id = I id) : Sm p I I' := by
  refine ⟨fun id hid => h id (by omega) (by omega) (by omega), ⟨?_, ?_, ?_, ?_⟩, fun id _ _ => ?_, fun id j _ _ => ?_, fun j _ => ?_, fun j _ => ?_, fun j _ => ?_⟩ <;> rw [h _ (by omega) (by omega) (by omega)]
theorem m_suf {n b c v l : Nat} {J : IH} (hb : b < 16) (hv : J 74 (16 + b) = nI v) (hc : c ≤ v) (hl : J 55 34 = nI l) : g_X9_suffer_129 n (nI (16 + b)) (nI c) J = some (up2 (up2 J 74 (16 + b) (nI (v - c))) 55 34 (nI (l + c))) := by
  simp only [g_X9_suffer_129, bnd_eq]
  rw [inB_t (by omega : 16 + b < 64) (by omega), if_pos rfl, if_pos rfl, nI_clamp (by omega), hv, pk_sub hc, up2_i _ _ (by omega : (55 : Nat) ≠ 74), hl, nI_add]
theorem m_suffer {p n i : Nat} (hp : p = 5 ∨ p = 18) {π : Pln} (hv : PV π) {J : IH} (hP : PlM J 0 π) {x : Nx} {U m : Nat} {d : Int32} (hi : i < π 0 0) (hx : tot x.1 (π 0 0) ≤ 20000) (hS : ShM J 1 (π 0 0) x.1 U m) (h0 : J 55 34 = nI x.2.1) (h1 : J 55 35 = nI x.2.2) :
    ∃ J', g_X9_suffer n (nI i) d J = some J' ∧ ShM J' 1 (π 0 0) (nst π d i U x).1 U m ∧ J' 55 34 = nI (nst π d i U x).2.1 ∧ J' 55 35 = nI (nst π d i U x).2.2 ∧ Sm p J J' := by
  have hG := hv.2.1
  have e15 : J 72 0 = nI (π 15 0) := hP.2.2.2.2.2.2.1
  have e16 : J 73 0 = nI (π 16 0) := hP.2.2.2.2.2.2.2
  have hbU := bU_lt U i
  have hup : g_X9_upper n 1 (nI i) J = some (nI (16 + (2 * i + bU U i)), J) := by
    have := m_upper (n := n) (k := 1) (i := i) (u := bU U i) (I := J) (by omega) (by omega) (hS.2.1 i hi) hbU
    rw [show 16 * 1 + 2 * i + bU U i = 16 + (2 * i + bU U i) by omega] at this
    exact this
  obtain ⟨sa, l, M⟩ := x
  dsimp only at hx hS h0 h1
  have hA : ∀ b, b < 2 * π 0 0 → J 74 (16 + b) = nI (sa b) := fun b hb => hS.2.2 b hb
  by_cases c1 : nI (π 15 0) ≤ d
  · by_cases c2 : nI (π 15 0) + nI (π 16 0) ≤ d
    · have key : nst π d i U (sa, l, M) = (sa, l, M) := by unfold nst; rw [if_pos c1, if_pos c2]
      rw [key]
      refine ⟨J, ?_, hS, h0, h1, Sm_refl _ _⟩
      simp only [g_X9_suffer, bnd_eq]
      rw [hup]
      dsimp only
      rw [e15, e16, if_pos c1, if_pos c2]
    · have key : nst π d i U (sa, l, M) = (updN sa (2 * i + bU U i) (sa (2 * i + bU U i) - min 3 (sa (2 * i + bU U i))), l + min 3 (sa (2 * i + bU U i)), M) := by unfold nst; rw [if_pos c1, if_neg c2]
      rw [key]
      have ht := tot_ge (sa := sa) (b := 2 * i + bU U i) (π 0 0) (by omega)
      have hsf := m_suf (n := n) (b := 2 * i + bU U i) (c := min 3 (sa (2 * i + bU U i))) (by omega) (hA _ (by omega)) (Nat.min_le_right _ _) h0
      refine ⟨up2 (up2 J 74 (16 + (2 * i + bU U i)) (nI (sa (2 * i + bU U i) - min 3 (sa (2 * i + bU U i))))) 55 34 (nI (l + min 3 (sa (2 * i + bU U i)))), ?_, ShM_55 (ShM_up (k := 1) hS), up2_s _ _ _ _, ?_, Sm_nt hp (fun j hj => by rw [up2_i _ _ (by omega), up2_j _ _ (by omega)]) (fun j w1 _ => by rw [up2_j _ _ w1, up2_i _ _ (by omega)]) (fun id w1 w2 => by rw [up2_i _ _ w2, up2_i _ _ w1])⟩
      · simp only [g_X9_suffer, bnd_eq]
        rw [hup]
        dsimp only
        rw [e15, e16, if_pos c1, if_neg c2, inB_t (by omega : 16 + (2 * i + bU U i) < 64) (by omega), if_pos rfl, nI_clamp (by omega), hA _ (by omega), li3]
        by_cases c3 : 3 ≤ sa (2 * i + bU U i)
        · rw [if_pos (nI_le c3 (by omega))]
          rw [Nat.min_eq_left c3] at hsf ⊢
          exact hsf
        · rw [if_neg (nI_ge (by omega) (by omega)), if_pos rfl]
          rw [Nat.min_eq_right (by omega)] at hsf ⊢
          exact hsf
      · rw [up2_j _ _ (by omega), up2_i _ _ (by omega)]; exact h1
  · have key : nst π d i U (sa, l, M) = (updN (updN sa (2 * i) 0) (2 * i + 1) 0, l + (sa (2 * i) + sa (2 * i + 1)), M ||| 2 ^ i) := by unfold nst; rw [if_neg c1]
    rw [key]
    refine ⟨up2 (up2 (up2 (up2 J 55 35 (nI (M ||| 2 ^ i))) 55 34 (nI (l + (sa (2 * i) + sa (2 * i + 1))))) 74 (16 + 2 * i) 0) 74 (16 + (2 * i + 1)) 0, ?_, ?_, ?_, ?_, ?_⟩
    · simp only [g_X9_suffer, bnd_eq]
      rw [hup]
      dsimp only
      rw [e15, if_neg c1, nI_pow (by omega), h1, nI_or, li16, li2, pk_mul, nI_add, nI_1, inB_t (by omega : 16 + 2 * i < 64) (by omega), inB_t (by omega : 16 + 2 * i + 1 < 64) (by omega), if_pos rfl, if_pos rfl, if_pos rfl, if_pos rfl, nI_clamp (by omega), nI_clamp (by omega), up2_i _ _ (by omega : (74 : Nat) ≠ 55), up2_j _ _ (by omega : (34 : Nat) ≠ 35), h0, hA _ (by omega), show 16 + 2 * i + 1 = 16 + (2 * i + 1) by omega, hA _ (by omega), nI_add, nI_add]
    · exact ShM_up (k := 1) (v := 0) (ShM_up (k := 1) (v := 0) (ShM_55 (ShM_55 hS)))
    · rw [up2_i _ _ (by omega), up2_i _ _ (by omega), up2_s]
    · rw [up2_i _ _ (by omega), up2_i _ _ (by omega), up2_j _ _ (by omega), up2_s]
    · exact Sm_nt hp (fun j hj => by rw [up2_j _ _ (by omega), up2_j _ _ (by omega), up2_i _ _ (by omega), up2_i _ _ (by omega)]) (fun j w1 w2 => by rw [up2_i _ _ (by omega), up2_i _ _ (by omega), up2_j _ _ w1, up2_j _ _ w2]) (fun id w1 w2 => by rw [up2_i _ _ w1, up2_i _ _ w1, up2_i _ _ w2, up2_i _ _ w2])
theorem m_pass_in {p : Nat} (hp : p = 5 ∨ p = 18) {π : Pln} (hv : PV π) {z k t U m : Nat} {x : Nx} (hU : U < 256) (hm : m ≤ 1100000) (hx : tot x.1 (π 0 0) ≤ 20000) (hx2 : x.2.2 < 256) {K : Int32 → Int32 → Int32 → IH → Option IH} :
    ∀ (d g n : Nat) (J : IH), g + d = π 0 0 → d + 20 < n → PlM J 0 π → ShM J 1 (π 0 0) (ngl π z k U x g).1 U m → J 55 34 = nI (ngl π z k U x g).2.1 → J 55 35 = nI (ngl π z k U x g).2.2 →
    ∃ J', g_X9_goNight_31 K n (nI z) (nI t) (nI k) (nI g) J = K (nI z) (nI t) (nI (k + 1)) J' ∧ ShM J' 1 (π 0 0) (fal π m U (ngl π z k U x (π 0 0)).1 (π 0 0)) U (m + 1) ∧ J' 55 34 = nI (ngl π z k U x (π 0 0)).2.1 ∧ J' 55 35 = nI (ngl π z k U x (π 0 0)).2.2 ∧ Sm p J J' := by
  have hG := hv.2.1
  intro d
  induction d with
  | zero =>
    intro g n J hg hn hP hS h0 h1
    obtain ⟨n, rfl⟩ : ∃ k, n = k + 1 := ⟨n - 1, by omega⟩
    have e : g = π 0 0 := by omega
    subst e
    obtain ⟨v1, v2⟩ := ngl_V hG (z := z) (k := k) (U := U) hx hx2 (π 0 0) (Nat.le_refl _)
    obtain ⟨J', a1, a2, a3, a4, a5, a6⟩ := m_fal (n := n) (k := 1) (by omega) (by omega) hv (tV v1 hU hm) hP hS
    refine ⟨J', ?_, a4, by rw [a6]; exact h0, by rw [a6]; exact h1, Sm_Bk hp a2⟩
    simp only [g_X9_goNight_31, bnd_eq]
    rw [hP.1, if_pos (nI_le (Nat.le_refl _) (by omega)), show g_X9_fall n 1 J = some J' from a1, nI_1]
  | succ d ih =>
    intro g n J hg hn hP hS h0 h1
    obtain ⟨n, rfl⟩ : ∃ k, n = k + 1 := ⟨n - 1, by omega⟩
    obtain ⟨v1, v2⟩ := ngl_V hG (z := z) (k := k) (U := U) hx hx2 g (by omega)
    have hbit := bU_lt (ngl π z k U x g).2.2 g
    by_cases c : bU (ngl π z k U x g).2.2 g = 0
    · have e : ngl π z k U x (g + 1) = nst π (drw (nI z) (nI g) (nI k)) g U (ngl π z k U x g) := if_pos c
      obtain ⟨J1, a1, a2, a3, a4, a5⟩ := m_suffer (n := n) (d := drw (nI z) (nI g) (nI k)) (i := g) hp hv hP (by omega) v1 hS h0 h1
      rw [← e] at a2 a3 a4
      obtain ⟨J', b1, b2, b3, b4, b5⟩ := ih (g + 1) n J1 (by omega) (by omega) (Sm_PlM a5 hv hP) a2 a3 a4
      refine ⟨J', ?_, b2, b3, b4, Sm_trans a5 b5⟩
      simp only [g_X9_goNight_31, g_X9_goNight_67, bnd_eq]
      rw [hP.1, if_neg (nI_ge (by omega) (by omega)), h1, m_has1 (by omega) (by omega)]
      dsimp only
      rw [c, if_pos nI_0, m_draw]
      dsimp only
      rw [a1]
      dsimp only
      rw [nI_1]
      exact b1
    · have e : ngl π z k U x (g + 1) = ngl π z k U x g := if_neg c
      obtain ⟨J', b1, b2, b3, b4, b5⟩ := ih (g + 1) n J (by omega) (by omega) hP (by rw [e]; exact hS) (by rw [e]; exact h0) (by rw [e]; exact h1)
      refine ⟨J', ?_, b2, b3, b4, b5⟩
      simp only [g_X9_goNight_31, g_X9_goNight_67, bnd_eq]
      rw [hP.1, if_neg (nI_ge (by omega) (by omega)), h1, m_has1 (by omega) (by omega)]
      dsimp only
      rw [if_neg (nI_ne0 (by omega) (by omega)), nI_1]
      exact b1
theorem m_pass_loop {p : Nat} (hp : p = 5 ∨ p = 18) {π : Pln} (hv : PV π) {z t U m : Nat} {sa : Nat → Nat} (hU : U < 256) (hm : m + t ≤ 1100000) (hx : tot sa (π 0 0) ≤ 20000) :
    ∀ (d k n : Nat) (J : IH), k + d = t → d + 60 < n → PlM J 0 π → J 55 29 = -4 → ShM J 1 (π 0 0) (nig π z sa U m k).1.1 (nig π z sa U m k).2 (m + k) → J 55 34 = nI (nig π z sa U m k).1.2.1 → J 55 35 = nI (nig π z sa U m k).1.2.2 →
    ∃ I', g_X9_goNight_18 n (nI z) (nI t) (nI k) J = some I' ∧ ShM I' 1 (π 0 0) (nig π z sa U m t).1.1 (nig π z sa U m t).2 (m + t) ∧ I' 55 34 = nI (nig π z sa U m t).1.2.1 ∧ I' 55 35 = nI (nig π z sa U m t).1.2.2 ∧ Sm p J I' := by
  have hG := hv.2.1
  intro d
  induction d with
  | zero =>
    intro k n J hk hn hP hl hS h0 h1
    obtain ⟨n, rfl⟩ : ∃ k, n = k + 1 := ⟨n - 1, by omega⟩
    simp only [g_X9_goNight_18]
    rw [if_pos (nI_le (by omega) (by omega))]
    have e : t = k := by omega
    subst e
    exact ⟨J, rfl, hS, h0, h1, Sm_refl _ _⟩
  | succ d ih =>
    intro k n J hk hn hP hl hS h0 h1
    obtain ⟨n, rfl⟩ : ∃ k, n = k + 1 := ⟨n - 1, by omega⟩
    obtain ⟨v1, v2, v3⟩ := nig_V hv (z := z) (m := m) hx hU k
    obtain ⟨J1, a1, a2, a3, a4, a5, a6, a7⟩ := m_min (n := n) (k := 1) (lk := 99) (lb := 0) (by omega) (by omega) hv (tV v1 v3 (by omega : m + k ≤ 1100000)) (by omega) hP (by rw [hl]; exact nobody4) (fun x h1 h2 => by omega) hS
    have sm1 := Sm_Bk hp a2
    obtain ⟨J2, b1, b2, b3, b4, b5⟩ := m_pass_in (t := t) (z := z) (k := k) (K := g_X9_goNight_18 n) hp hv a5.1 (by omega : m + k ≤ 1100000) v1 v2 (π 0 0) 0 n J1 (by omega) (by omega) a3 a4 (by rw [a7]; exact h0) (by rw [a7]; exact h1)
    have sm2 := Sm_trans sm1 b5
    obtain ⟨I', k1, k2, k3, k4, k5⟩ := ih (k + 1) n J2 (by omega) (by omega) (Sm_PlM b5 hv a3) (by rw [sm2.2.1.2.2.2]; exact hl) b2 b3 b4
    refine ⟨I', ?_, k2, k3, k4, Sm_trans sm2 k5⟩
    simp only [g_X9_goNight_18]
    rw [if_neg (nI_ge (by omega) (by omega)), show g_X9_clerks n 1 J = some J1 from a1]
    dsimp only
    rw [show g_X9_goNight_31 (g_X9_goNight_18 n) n (nI z) (nI t) (nI k) 0 J1 = _ from b1]
    exact k1
theorem m_night {p n : Nat} (hp : p = 5 ∨ p = 18) {π : Pln} (hv : PV π) {z t U m : Nat} {sa : Nat → Nat} (hn : t + 100 ≤ n) (hU : U < 256) (hm : m + t ≤ 1100000) (hx : tot sa (π 0 0) ≤ 20000) {I : IH} (hP : PlM I 0 π) (hl : I 55 29 = -4) (hS : ShM I 0 (π 0 0) sa U m) :
    ∃ I', g_X9_goNight n (nI z) (nI t) I = some I' ∧ ShM I' 1 (π 0 0) (nig π z sa U m t).1.1 (nig π z sa U m t).2 (m + t) ∧ I' 55 34 = nI (nig π z sa U m t).1.2.1 ∧ I' 55 35 = nI (nig π z sa U m t).1.2.2 ∧ Sm p I I' := by
  obtain ⟨J1, a1, a2, a3, a4, a5, a6⟩ := m_copy (a := 0) (b := 1) (n := n) (by omega) (by omega) (by omega) (by omega) hv.2.1 hS
  have hb1 : Bk 1 I J1 := ⟨a3, a4, a5, fun j _ => by rw [a6 _ (by omega) (by omega) (by omega)], fun id h1 h2 h3 _ _ => a6 id h1 h2 h3⟩
  have sm : Sm p I (up2 (up2 J1 55 34 0) 55 35 0) := Sm_trans (Sm_Bk hp hb1) (Sm_nt hp (fun j _ => by rw [up2_i _ _ (by omega), up2_i _ _ (by omega)]) (fun j w1 w2 => by rw [up2_j _ _ w2, up2_j _ _ w1]) (fun id _ w2 => by rw [up2_i _ _ w2, up2_i _ _ w2]))
  obtain ⟨I', k1, k2, k3, k4, k5⟩ := m_pass_loop (z := z) (m := m) hp hv hU hm hx t 0 n (up2 (up2 J1 55 34 0) 55 35 0) (by omega) (by omega) (Sm_PlM sm hv hP) (by rw [sm.2.1.2.2.2]; exact hl) (ShM_55 (ShM_55 a2)) (by rw [up2_j _ _ (by omega), up2_s]; rfl) (by rw [up2_s]; rfl)
  refine ⟨I', ?_, k2, k3, k4, Sm_trans sm k5⟩
  simp only [g_X9_goNight, bnd_eq]
  rw [show g_X9_copy n 0 1 I = some J1 from a1]
  exact k1
abbrev nt2 (a0 a1 : Int32) : Prop := (0 ≤ a0 ∧ a0 ≤ 9999) ∧ (0 ≤ a1 ∧ a1 ≤ 2000)
theorem c_isNight {n : Nat} {a0 a1 : Int32} {I : IH} : g_X8_isNight n a0 a1 I = some (if nt2 a0 a1 then 1 else 0, I) := by
  simp only [g_X8_isNight]
  rw [c_within]
  dsimp only
  rw [r01]
  by_cases h1 : 0 ≤ a0 ∧ a0 ≤ 9999
  · rw [if_pos h1, c_within]
    dsimp only
    rw [r01]
    by_cases h2 : 0 ≤ a1 ∧ a1 ≤ 2000
    · rw [if_pos h2, if_pos ⟨h1, h2⟩]
    · rw [if_neg h2, if_neg (fun q => h2 q.2)]
  · rw [if_neg h1, if_neg (fun q => h1 q.1)]
theorem m_isNight {n : Nat} {a0 a1 : Int32} {I : IH} : g_X9_isNight n a0 a1 I = some (if nt2 a0 a1 then 1 else 0, I) := by
  simp only [g_X9_isNight]
  rw [in_09999]
  dsimp only
  rw [r01]
  by_cases h1 : 0 ≤ a0 ∧ a0 ≤ 9999
  · rw [if_pos h1, in_02000]
    dsimp only
    rw [r01]
    by_cases h2 : 0 ≤ a1 ∧ a1 ≤ 2000
    · rw [if_pos h2, if_pos ⟨h1, h2⟩]
    · rw [if_neg h2, if_neg (fun q => h2 q.2)]
  · rw [if_neg h1, if_neg (fun q => h1 q.1)]
theorem m_night_cnt {I : IH} {M : Nat} (hM : M < 256) (h : I 55 35 = nI M) (v3 : Int32) :
    ∀ (d k n : Nat), k + d = 8 → d + 10 < n → g_X9_night_32 n v3 (nI (pcn M k)) (nI k) I = some (if v3 = 0 then I 55 34 else nI (pcn M 8), I) := by
  intro d
  induction d with
  | zero =>
    intro k n hk hn
    obtain ⟨n, rfl⟩ : ∃ k, n = k + 1 := ⟨n - 1, by omega⟩
    simp only [g_X9_night_32]
    rw [li8, if_pos (nI_le (by omega) (by omega)), show k = 8 by omega]
    split <;> rfl
  | succ d ih =>
    intro k n hk hn
    obtain ⟨n, rfl⟩ : ∃ k, n = k + 1 := ⟨n - 1, by omega⟩
    have r := ih (k + 1) n (by omega) (by omega)
    have hb := bU_lt M k
    simp only [g_X9_night_32, g_X9_night_58, bnd_eq]
    rw [li8, if_neg (nI_ge (by omega) (by omega)), h, m_has1 (by omega) (by omega)]
    dsimp only
    rw [show pcn M (k + 1) = pcn M k + bU M k from rfl] at r
    by_cases c : bU M k = 0
    · rw [c, Nat.add_zero] at r
      rw [c, if_pos nI_0, li0, nI_add, Nat.add_zero, nI_1]
      exact r
    · rw [show bU M k = 1 by omega] at r
      rw [if_neg (nI_ne0 (by omega) (by omega)), nI_1, nI_1]
      exact r
theorem o_night : op_night Inv := by
  intro p I a0 a1 a2 h
  have h0 := h
  obtain ⟨hp, tx, hl, π, hv, pc, tu, pm, ⟨sa, U, m, ⟨s1, s2, s3, s4, s5⟩, un⟩, z, ta, ti, ki⟩ := h
  have hG := hv.2.1
  by_cases hc0 : nt2 a0 a1
  case neg =>
    refine ⟨0, 0, -1, I, I, ?_, ?_, h0⟩
    · simp only [g_X8_night]
      rw [c_isNight]
      dsimp only
      rw [r01, if_neg hc0]
    · simp only [g_X9_night]
      rw [m_isNight]
      dsimp only
      rw [r01, if_neg hc0]
  by_cases hc1 : 0 ≤ a2 ∧ a2 ≤ 1
  case neg =>
    refine ⟨0, 0, -1, I, I, ?_, ?_, h0⟩
    · simp only [g_X8_night]
      rw [c_isNight]
      dsimp only
      rw [r01, if_pos hc0, c_within]
      dsimp only
      rw [r01, if_neg hc1]
    · simp only [g_X9_night]
      rw [m_isNight]
      dsimp only
      rw [r01, if_pos hc0, in_01]
      dsimp only
      rw [r01, if_neg hc1]
  obtain ⟨y, hy, rfl⟩ := rng_of (N := 9999) rfl (by omega) hc0.1
  obtain ⟨t, ht, rfl⟩ := rng_of (N := 2000) rfl (by omega) hc0.2
  obtain ⟨J1, a1, a2', a3, a4, a5⟩ := c_night (n := t + 100) (z := y) hp hv (t := t) (by omega) s1 (by omega) (by omega) pc tu s4
  have sm1 := Sm_47 hp a5
  obtain ⟨J2, d1, d2, d3, d4, d5⟩ := m_night (p := p) (n := t + 100) (z := y) (I := J1) hp hv (t := t) (by omega) s1 (by omega) (by omega) (Sm_PlM sm1 hv pm) (by rw [a5 _ (by omega) (by omega) (by omega)]; exact hl) (ShM_congr hG (fun j _ _ => by rw [a5 _ (by omega) (by omega) (by omega)]) (fun j _ _ => by rw [a5 _ (by omega) (by omega) (by omega)]) (by rw [a5 _ (by omega) (by omega) (by omega)]) s5)
  obtain ⟨v1, v2, v3⟩ := nig_V hv (z := y) (m := m) (by omega : tot sa (π 0 0) ≤ 20000) s1 t
  refine ⟨t + 100, t + 100, (if a2 = 0 then nI (nig π y sa U m t).1.2.1 else nI (pcn (nig π y sa U m t).1.2.2 8)), J1, J2, ?_, ?_, Inv_Sm h0 (Sm_trans sm1 d5)⟩
  · simp only [g_X8_night]
    rw [c_isNight]
    dsimp only
    rw [r01, if_pos hc0, c_within]
    dsimp only
    rw [r01, if_pos hc1, a1]
    dsimp only
    rw [a3, a4]
    split <;> rfl
  · simp only [g_X9_night]
    rw [m_isNight]
    dsimp only
    rw [r01, if_pos hc0, in_01]
    dsimp only
    rw [r01, if_pos hc1, d1]
    dsimp only
    rw [show g_X9_night_32 (t + 100) a2 0 0 J2 = _ from m_night_cnt v2 d4 a2 8 0 (t + 100) (by omega) (by omega), d3]
theorem o_nightHas : op_nightHas Inv := by
  intro p I a0 a1 a2 h
  have h0 := h
  obtain ⟨hp, tx, hl, π, hv, pc, tu, pm, ⟨sa, U, m, ⟨s1, s2, s3, s4, s5⟩, un⟩, z, ta, ti, ki⟩ := h
  have hG := hv.2.1
  by_cases hc0 : nt2 a0 a1
  case neg =>
    refine ⟨0, 0, -1, I, I, ?_, ?_, h0⟩
    · simp only [g_X8_nightHas]
      rw [c_isNight]
      dsimp only
      rw [r01, if_neg hc0]
    · simp only [g_X9_nightHas]
      rw [m_isNight]
      dsimp only
      rw [r01, if_neg hc0]
  by_cases hc1 : 0 ≤ a2 ∧ a2 ≤ 5
  case neg =>
    refine ⟨0, 0, -1, I, I, ?_, ?_, h0⟩
    · simp only [g_X8_nightHas]
      rw [c_isNight]
      dsimp only
      rw [r01, if_pos hc0, c_isHand]
      dsimp only
      rw [r01, if_neg hc1]
    · simp only [g_X9_nightHas]
      rw [m_isNight]
      dsimp only
      rw [r01, if_pos hc0, m_isHand]
      dsimp only
      rw [r01, if_neg hc1]
  obtain ⟨y, hy, rfl⟩ := rng_of (N := 9999) rfl (by omega) hc0.1
  obtain ⟨t, ht, rfl⟩ := rng_of (N := 2000) rfl (by omega) hc0.2
  obtain ⟨x, hx, rfl⟩ := rng_of (N := 5) rfl (by omega) hc1
  obtain ⟨J1, a1, a2', a3, a4, a5⟩ := c_night (n := t + 100) (z := y) hp hv (t := t) (by omega) s1 (by omega) (by omega) pc tu s4
  have sm1 := Sm_47 hp a5
  obtain ⟨J2, d1, d2, d3, d4, d5⟩ := m_night (p := p) (n := t + 100) (z := y) (I := J1) hp hv (t := t) (by omega) s1 (by omega) (by omega) (Sm_PlM sm1 hv pm) (by rw [a5 _ (by omega) (by omega) (by omega)]; exact hl) (ShM_congr hG (fun j _ _ => by rw [a5 _ (by omega) (by omega) (by omega)]) (fun j _ _ => by rw [a5 _ (by omega) (by omega) (by omega)]) (by rw [a5 _ (by omega) (by omega) (by omega)]) s5)
  obtain ⟨v1, v2, v3⟩ := nig_V hv (z := y) (m := m) (by omega : tot sa (π 0 0) ≤ 20000) s1 t
  have sm2 := Sm_trans sm1 d5
  refine ⟨t + 100, t + 100, nI (hss π (nig π y sa U m t).1.1 x (π 0 0)), J1, J2, ?_, ?_, Inv_Sm h0 sm2⟩
  · simp only [g_X8_nightHas]
    rw [c_isNight]
    dsimp only
    rw [r01, if_pos hc0, c_isHand]
    dsimp only
    rw [r01, if_pos hc1, a1]
    dsimp only
    rw [c_has (by omega) hv (PlC_congr (fun j hj => a5 _ (by omega) (by omega) (by omega)) pc) a2' (tV v1 v3 (by omega)) hx]
  · simp only [g_X9_nightHas]
    rw [m_isNight]
    dsimp only
    rw [r01, if_pos hc0, m_isHand]
    dsimp only
    rw [r01, if_pos hc1, d1]
    dsimp only
    rw [show g_X9_hasOf (t + 100) 1 (nI x) J2 = _ from m_has (b := 1) (by omega) (by omega) hv (Sm_PlM sm2 hv pm) d2 (tV v1 v3 (by omega)) hx]
