/-! Written by wip/whole/gen20.py. -/
def g_X8_glass_48 (n : Nat) (p : Nat) (v1 : Int32) (v2 : Int32) (I : IH) : Option (Int32 × IH) :=
  if inB ((2 * v1) + v2) 16 = true then
    bnd (I 32 (Int32.toNatClampNeg ((2 * v1) + v2))) fun x8 =>
    some (x8, I)
  else none
set_option maxRecDepth 20000 in
theorem t_X8_glass_48 {p : Nat} (hp : p = 5 ∨ p = 18) {n : Nat} {v1 : Int32} {v2 : Int32} {I : IH} {w : Int32 × IH} (hg : g_X8_glass_48 n p v1 v2 I = some w) : TT none mt_X8_glass 48 [(0, .ref 0), (1, .int v1), (2, .int v2)] [] (83, I, R0 p) (some (.int w.1)) (83, w.2, R0 p) := by
  unfold g_X8_glass_48 at hg
  refine TT_go 8 (pc' := 60) (lv' := [(0, .ref 0), (1, .int v1), (2, .int v2)]) (st' := [.int ((2 * v1) + v2), .ref 32]) (h2 := (83, I, R0 p)) (by rcases hp with rfl | rfl <;> rfl) ?_
  by_cases hb7 : inB ((2 * v1) + v2) 16 = true
  rotate_left
  · rw [if_neg hb7] at hg; cases hg
  rw [if_pos hb7] at hg
  refine TT_iald (n := 16) rfl (by rcases hp with rfl | rfl <;> rfl) hb7 ?_
  obtain ⟨x8, hx8⟩ : ∃ x : Int32, x = (I 32 (Int32.toNatClampNeg ((2 * v1) + v2))) := ⟨_, rfl⟩
  replace hg := bnd_use hx8 hg
  refine TT_go 0 (pc' := 61) (lv' := [(0, .ref 0), (1, .int v1), (2, .int v2)]) (st' := [.int x8]) (h2 := (83, I, R0 p)) (by subst hx8; rcases hp with rfl | rfl <;> rfl) ?_
  have hg := Option.some.inj hg
  subst hg
  exact TT_ret rfl rfl
def g_X8_glass (n : Nat) (p : Nat) (a0 : Int32) (a1 : Int32) (I : IH) : Option (Int32 × IH) :=
  match g_X8_isGlass n p a0 I with
  | none => none
  | some (r4, J3) =>
    if r4 = 0 then
      some ((-1), J3)
    else
      if a1 = 0 then
        g_X8_glass_48 n p a0 a1 J3
      else if a1 = 1 then
        g_X8_glass_48 n p a0 a1 J3
      else if a1 = 2 then
        match g_X5_upperSide n 31 a0 J3 with
        | none => none
        | some (r14, J13) =>
          some (r14, J13)
      else if a1 = 3 then
        if inB a0 8 = true then
          bnd (J3 ((p + 1)) (Int32.toNatClampNeg a0)) fun x17 =>
          some (x17, J3)
        else none
      else if a1 = 4 then
        if inB a0 8 = true then
          bnd (J3 ((p + 2)) (Int32.toNatClampNeg a0)) fun x20 =>
          some (x20, J3)
        else none
      else if a1 = 5 then
        if inB a0 8 = true then
          bnd (J3 ((p + 3)) (Int32.toNatClampNeg a0)) fun x23 =>
          some (x23, J3)
        else none
      else
        some ((-1), J3)
set_option maxRecDepth 20000 in
theorem t_X8_glass {p : Nat} (hp : p = 5 ∨ p = 18) {n : Nat} {a0 : Int32} {a1 : Int32} {I : IH} {w : Int32 × IH} (hg : g_X8_glass n p a0 a1 I = some w) : TT none mt_X8_glass 0 (lv_args 0 [.ref 0, .int a0, .int a1]) [] (83, I, R0 p) (some (.int w.1)) (83, w.2, R0 p) := by
  unfold g_X8_glass at hg
  refine TT_go 2 (pc' := 2) (lv' := [(0, .ref 0), (1, .int a0), (2, .int a1)]) (st' := [.int a0, .ref 0]) (h2 := (83, I, R0 p)) (by rcases hp with rfl | rfl <;> rfl) ?_
  cases hq1 : g_X8_isGlass n p a0 I with
  | none => rw [hq1] at hg; cases hg
  | some w2 =>
    obtain ⟨r4, J3⟩ := w2
    rw [hq1] at hg
    dsimp only at hg
    refine TT_call (me' := mt_X8_isGlass) (as := [.ref 0, .int a0]) (rest := []) (r1 := some (.int r4)) (h1 := (83, J3, R0 p)) rfl rfl (by rcases hp with rfl | rfl <;> rfl) (t_X8_isGlass hp hq1) ?_
    refine TT_go 0 (pc' := 5) (lv' := [(0, .ref 0), (1, .int a0), (2, .int a1)]) (st' := [.int r4]) (h2 := (83, J3, R0 p)) (by rcases hp with rfl | rfl <;> rfl) ?_
    by_cases hc5 : r4 = 0
    · rw [if_pos hc5] at hg
      refine TT_zne_f (t := 10) rfl rfl hc5 ?_
      refine TT_go 1 (pc' := 9) (lv' := [(0, .ref 0), (1, .int a0), (2, .int a1)]) (st' := [.int (-1)]) (h2 := (83, J3, R0 p)) (by rcases hp with rfl | rfl <;> rfl) ?_
      have hg := Option.some.inj hg
      subst hg
      exact TT_ret rfl rfl
    · rw [if_neg hc5] at hg
      refine TT_zne_t (t := 10) rfl rfl hc5 ?_
      refine TT_go 1 (pc' := 11) (lv' := [(0, .ref 0), (1, .int a0), (2, .int a1)]) (st' := [.int a1]) (h2 := (83, J3, R0 p)) (by rcases hp with rfl | rfl <;> rfl) ?_
      by_cases hc6 : a1 = 0
      · rw [if_pos hc6] at hg
        refine TT_tin (t := 48) (off := 37) rfl (by rw [hc6]; decide) (by rw [hc6]; rfl) rfl ?_
        refine TT_go 0 (pc' := 48) (lv' := [(0, .ref 0), (1, .int a0), (2, .int a1)]) (st' := []) (h2 := (83, J3, R0 p)) (by rcases hp with rfl | rfl <;> rfl) ?_
        refine TT_sub (lv2 := [(0, .ref 0), (1, .int a0), (2, .int a1)]) rfl rfl ⟨rfl, rfl, rfl, trivial⟩ ?_
        exact t_X8_glass_48 hp hg
      rw [if_neg hc6] at hg
      by_cases hc9 : a1 = 1
      · rw [if_pos hc9] at hg
        refine TT_tin (t := 48) (off := 37) rfl (by rw [hc9]; decide) (by rw [hc9]; rfl) rfl ?_
        refine TT_go 0 (pc' := 48) (lv' := [(0, .ref 0), (1, .int a0), (2, .int a1)]) (st' := []) (h2 := (83, J3, R0 p)) (by rcases hp with rfl | rfl <;> rfl) ?_
        refine TT_sub (lv2 := [(0, .ref 0), (1, .int a0), (2, .int a1)]) rfl rfl ⟨rfl, rfl, rfl, trivial⟩ ?_
        exact t_X8_glass_48 hp hg
      rw [if_neg hc9] at hg
      by_cases hc10 : a1 = 2
      · rw [if_pos hc10] at hg
        refine TT_tin (t := 62) (off := 51) rfl (by rw [hc10]; decide) (by rw [hc10]; rfl) rfl ?_
        refine TT_go 3 (pc' := 67) (lv' := [(0, .ref 0), (1, .int a0), (2, .int a1)]) (st' := [.int a0, .ref 31]) (h2 := (83, J3, R0 p)) (by rcases hp with rfl | rfl <;> rfl) ?_
        cases hq11 : g_X5_upperSide n 31 a0 J3 with
        | none => rw [hq11] at hg; cases hg
        | some w12 =>
          obtain ⟨r14, J13⟩ := w12
          rw [hq11] at hg
          dsimp only at hg
          refine TT_call (me' := mt_X5_upperSide) (as := [.ref 31, .int a0]) (rest := []) (r1 := some (.int r14)) (h1 := (83, J13, R0 p)) rfl rfl (by rcases hp with rfl | rfl <;> rfl) (t_X5_upperSide (Or.inl rfl) hq11) ?_
          refine TT_go 0 (pc' := 70) (lv' := [(0, .ref 0), (1, .int a0), (2, .int a1)]) (st' := [.int r14]) (h2 := (83, J13, R0 p)) (by rcases hp with rfl | rfl <;> rfl) ?_
          have hg := Option.some.inj hg
          subst hg
          exact TT_ret rfl rfl
      rw [if_neg hc10] at hg
      by_cases hc15 : a1 = 3
      · rw [if_pos hc15] at hg
        refine TT_tin (t := 71) (off := 60) rfl (by rw [hc15]; decide) (by rw [hc15]; rfl) rfl ?_
        refine TT_go 4 (pc' := 79) (lv' := [(0, .ref 0), (1, .int a0), (2, .int a1)]) (st' := [.int a0, .ref (p + 1)]) (h2 := (83, J3, R0 p)) (by rcases hp with rfl | rfl <;> rfl) ?_
        by_cases hb16 : inB a0 8 = true
        rotate_left
        · rw [if_neg hb16] at hg; cases hg
        rw [if_pos hb16] at hg
        refine TT_iald (n := 8) rfl (by rcases hp with rfl | rfl <;> rfl) hb16 ?_
        obtain ⟨x17, hx17⟩ : ∃ x : Int32, x = (J3 ((p + 1)) (Int32.toNatClampNeg a0)) := ⟨_, rfl⟩
        replace hg := bnd_use hx17 hg
        refine TT_go 0 (pc' := 80) (lv' := [(0, .ref 0), (1, .int a0), (2, .int a1)]) (st' := [.int x17]) (h2 := (83, J3, R0 p)) (by subst hx17; rcases hp with rfl | rfl <;> rfl) ?_
        have hg := Option.some.inj hg
        subst hg
        exact TT_ret rfl rfl
      rw [if_neg hc15] at hg
      by_cases hc18 : a1 = 4
      · rw [if_pos hc18] at hg
        refine TT_tin (t := 81) (off := 70) rfl (by rw [hc18]; decide) (by rw [hc18]; rfl) rfl ?_
        refine TT_go 4 (pc' := 89) (lv' := [(0, .ref 0), (1, .int a0), (2, .int a1)]) (st' := [.int a0, .ref (p + 2)]) (h2 := (83, J3, R0 p)) (by rcases hp with rfl | rfl <;> rfl) ?_
        by_cases hb19 : inB a0 8 = true
        rotate_left
        · rw [if_neg hb19] at hg; cases hg
        rw [if_pos hb19] at hg
        refine TT_iald (n := 8) rfl (by rcases hp with rfl | rfl <;> rfl) hb19 ?_
        obtain ⟨x20, hx20⟩ : ∃ x : Int32, x = (J3 ((p + 2)) (Int32.toNatClampNeg a0)) := ⟨_, rfl⟩
        replace hg := bnd_use hx20 hg
        refine TT_go 0 (pc' := 90) (lv' := [(0, .ref 0), (1, .int a0), (2, .int a1)]) (st' := [.int x20]) (h2 := (83, J3, R0 p)) (by subst hx20; rcases hp with rfl | rfl <;> rfl) ?_
        have hg := Option.some.inj hg
        subst hg
        exact TT_ret rfl rfl
      rw [if_neg hc18] at hg
      by_cases hc21 : a1 = 5
      · rw [if_pos hc21] at hg
        refine TT_tin (t := 91) (off := 80) rfl (by rw [hc21]; decide) (by rw [hc21]; rfl) rfl ?_
        refine TT_go 4 (pc' := 99) (lv' := [(0, .ref 0), (1, .int a0), (2, .int a1)]) (st' := [.int a0, .ref (p + 3)]) (h2 := (83, J3, R0 p)) (by rcases hp with rfl | rfl <;> rfl) ?_
        by_cases hb22 : inB a0 8 = true
        rotate_left
        · rw [if_neg hb22] at hg; cases hg
        rw [if_pos hb22] at hg
        refine TT_iald (n := 8) rfl (by rcases hp with rfl | rfl <;> rfl) hb22 ?_
        obtain ⟨x23, hx23⟩ : ∃ x : Int32, x = (J3 ((p + 3)) (Int32.toNatClampNeg a0)) := ⟨_, rfl⟩
        replace hg := bnd_use hx23 hg
        refine TT_go 0 (pc' := 100) (lv' := [(0, .ref 0), (1, .int a0), (2, .int a1)]) (st' := [.int x23]) (h2 := (83, J3, R0 p)) (by subst hx23; rcases hp with rfl | rfl <;> rfl) ?_
        have hg := Option.some.inj hg
        subst hg
        exact TT_ret rfl rfl
      rw [if_neg hc21] at hg
      refine TT_tout (t := 101) rfl (by have e0 := lv_neT (a := 0) hc6 (by decide); have e1 := lv_neT (a := 1) hc9 (by decide); have e2 := lv_neT (a := 2) hc10 (by decide); have e3 := lv_neT (a := 3) hc15 (by decide); have e4 := lv_neT (a := 4) hc18 (by decide); have e5 := lv_neT (a := 5) hc21 (by decide); omega) rfl ?_
      refine TT_go 1 (pc' := 102) (lv' := [(0, .ref 0), (1, .int a0), (2, .int a1)]) (st' := [.int (-1)]) (h2 := (83, J3, R0 p)) (by rcases hp with rfl | rfl <;> rfl) ?_
      have hg := Option.some.inj hg
      subst hg
      exact TT_ret rfl rfl
def g_X8_has (n : Nat) (p : Nat) (a0 : Int32) (I : IH) : Option (Int32 × IH) :=
  match g_X8_isHand n a0 I with
  | none => none
  | some (r4, J3) =>
    if r4 = 0 then
      some ((-1), J3)
    else
      match g_X5_grainsOf n 31 p a0 J3 with
      | none => none
      | some (r9, J8) =>
        some (r9, J8)
set_option maxRecDepth 20000 in
theorem t_X8_has {p : Nat} (hp : p = 5 ∨ p = 18) {n : Nat} {a0 : Int32} {I : IH} {w : Int32 × IH} (hg : g_X8_has n p a0 I = some w) : TT none mt_X8_has 0 (lv_args 0 [.ref 0, .int a0]) [] (83, I, R0 p) (some (.int w.1)) (83, w.2, R0 p) := by
  unfold g_X8_has at hg
  refine TT_go 1 (pc' := 1) (lv' := [(0, .ref 0), (1, .int a0)]) (st' := [.int a0]) (h2 := (83, I, R0 p)) (by rcases hp with rfl | rfl <;> rfl) ?_
  cases hq1 : g_X8_isHand n a0 I with
  | none => rw [hq1] at hg; cases hg
  | some w2 =>
    obtain ⟨r4, J3⟩ := w2
    rw [hq1] at hg
    dsimp only at hg
    refine TT_call (me' := mt_X8_isHand) (as := [.int a0]) (rest := []) (r1 := some (.int r4)) (h1 := (83, J3, R0 p)) rfl rfl (by rcases hp with rfl | rfl <;> rfl) (t_X8_isHand hq1) ?_
    refine TT_go 0 (pc' := 4) (lv' := [(0, .ref 0), (1, .int a0)]) (st' := [.int r4]) (h2 := (83, J3, R0 p)) (by rcases hp with rfl | rfl <;> rfl) ?_
    by_cases hc5 : r4 = 0
    · rw [if_pos hc5] at hg
      refine TT_zeq_t (t := 22) rfl rfl hc5 ?_
      refine TT_go 1 (pc' := 23) (lv' := [(0, .ref 0), (1, .int a0)]) (st' := [.int (-1)]) (h2 := (83, J3, R0 p)) (by rcases hp with rfl | rfl <;> rfl) ?_
      have hg := Option.some.inj hg
      subst hg
      exact TT_ret rfl rfl
    · rw [if_neg hc5] at hg
      refine TT_zeq_f (t := 22) rfl rfl hc5 ?_
      refine TT_go 5 (pc' := 16) (lv' := [(0, .ref 0), (1, .int a0)]) (st' := [.int a0, .ref p, .ref 31]) (h2 := (83, J3, R0 p)) (by rcases hp with rfl | rfl <;> rfl) ?_
      cases hq6 : g_X5_grainsOf n 31 p a0 J3 with
      | none => rw [hq6] at hg; cases hg
      | some w7 =>
        obtain ⟨r9, J8⟩ := w7
        rw [hq6] at hg
        dsimp only at hg
        refine TT_call (me' := mt_X5_grainsOf) (as := [.ref 31, .ref p, .int a0]) (rest := []) (r1 := some (.int r9)) (h1 := (83, J8, R0 p)) rfl rfl (by rcases hp with rfl | rfl <;> rfl) (t_X5_grainsOf (Or.inl rfl) hp hq6) ?_
        refine TT_go 1 (pc' := 23) (lv' := [(0, .ref 0), (1, .int a0)]) (st' := [.int r9]) (h2 := (83, J8, R0 p)) (by rcases hp with rfl | rfl <;> rfl) ?_
        have hg := Option.some.inj hg
        subst hg
        exact TT_ret rfl rfl
def g_X8_minutes (n : Nat) (p : Nat) (a0 : Int32) (I : IH) : Option (Int32 × IH) :=
  match g_X8_within n a0 1 999 I with
  | none => none
  | some (r4, J3) =>
    if r4 = 0 then
      some ((-1), J3)
    else
      if ((J3 31 2) + a0) ≤ 1000000 then
        match g_X5_goOn n 31 p a0 (-1) 0 J3 with
        | none => none
        | some J9 =>
          bnd (up2 J9 35 0 0) fun J10 =>
          some ((J10 31 2), J10)
      else
        some ((-2), J3)
set_option maxRecDepth 20000 in
theorem t_X8_minutes {p : Nat} (hp : p = 5 ∨ p = 18) {n : Nat} {a0 : Int32} {I : IH} {w : Int32 × IH} (hg : g_X8_minutes n p a0 I = some w) : TT none mt_X8_minutes 0 (lv_args 0 [.ref 0, .int a0]) [] (83, I, R0 p) (some (.int w.1)) (83, w.2, R0 p) := by
  unfold g_X8_minutes at hg
  refine TT_go 3 (pc' := 5) (lv' := [(0, .ref 0), (1, .int a0)]) (st' := [.int 999, .int 1, .int a0]) (h2 := (83, I, R0 p)) (by rcases hp with rfl | rfl <;> rfl) ?_
  cases hq1 : g_X8_within n a0 1 999 I with
  | none => rw [hq1] at hg; cases hg
  | some w2 =>
    obtain ⟨r4, J3⟩ := w2
    rw [hq1] at hg
    dsimp only at hg
    refine TT_call (me' := mt_X8_within) (as := [.int a0, .int 1, .int 999]) (rest := []) (r1 := some (.int r4)) (h1 := (83, J3, R0 p)) rfl rfl (by rcases hp with rfl | rfl <;> rfl) (t_X8_within hq1) ?_
    refine TT_go 0 (pc' := 8) (lv' := [(0, .ref 0), (1, .int a0)]) (st' := [.int r4]) (h2 := (83, J3, R0 p)) (by rcases hp with rfl | rfl <;> rfl) ?_
    by_cases hc5 : r4 = 0
    · rw [if_pos hc5] at hg
      refine TT_zne_f (t := 13) rfl rfl hc5 ?_
      refine TT_go 1 (pc' := 12) (lv' := [(0, .ref 0), (1, .int a0)]) (st' := [.int (-1)]) (h2 := (83, J3, R0 p)) (by rcases hp with rfl | rfl <;> rfl) ?_
      have hg := Option.some.inj hg
      subst hg
      exact TT_ret rfl rfl
    · rw [if_neg hc5] at hg
      refine TT_zne_t (t := 13) rfl rfl hc5 ?_
      refine TT_go 6 (pc' := 24) (lv' := [(0, .ref 0), (1, .int a0)]) (st' := [.int 1000000, .int ((J3 31 2) + a0)]) (h2 := (83, J3, R0 p)) (by rcases hp with rfl | rfl <;> rfl) ?_
      by_cases hc6 : ((J3 31 2) + a0) ≤ 1000000
      · rw [if_pos hc6] at hg
        refine TT_ile_t (t := 30) rfl rfl hc6 ?_
        refine TT_go 7 (pc' := 41) (lv' := [(0, .ref 0), (1, .int a0)]) (st' := [.int 0, .int (-1), .int a0, .ref p, .ref 31]) (h2 := (83, J3, R0 p)) (by rcases hp with rfl | rfl <;> rfl) ?_
        cases hq7 : g_X5_goOn n 31 p a0 (-1) 0 J3 with
        | none => rw [hq7] at hg; cases hg
        | some w8 =>
          obtain ⟨J9, hJ9⟩ : ∃ J, J = w8 := ⟨_, rfl⟩
          rw [← hJ9] at hq7
          rw [hq7] at hg
          dsimp only at hg
          refine TT_call (me' := mt_X5_goOn) (as := [.ref 31, .ref p, .int a0, .int (-1), .int 0]) (rest := []) (r1 := none) (h1 := (83, J9, R0 p)) rfl rfl (by rcases hp with rfl | rfl <;> rfl) (t_X5_goOn (Or.inl rfl) hp hq7) ?_
          obtain ⟨J10, hJ10⟩ : ∃ x : IH, x = (up2 J9 35 0 0) := ⟨_, rfl⟩
          replace hg := bnd_use hJ10 hg
          refine TT_go 4 (pc' := 52) (lv' := [(0, .ref 0), (1, .int a0)]) (st' := []) (h2 := (83, J10, R0 p)) (by subst hJ10; rcases hp with rfl | rfl <;> rfl) ?_
          refine TT_go 3 (pc' := 59) (lv' := [(0, .ref 0), (1, .int a0)]) (st' := [.int (J10 31 2)]) (h2 := (83, J10, R0 p)) (by rcases hp with rfl | rfl <;> rfl) ?_
          have hg := Option.some.inj hg
          subst hg
          exact TT_ret rfl rfl
      · rw [if_neg hc6] at hg
        refine TT_ile_f (t := 30) rfl rfl hc6 ?_
        refine TT_go 1 (pc' := 29) (lv' := [(0, .ref 0), (1, .int a0)]) (st' := [.int (-2)]) (h2 := (83, J3, R0 p)) (by rcases hp with rfl | rfl <;> rfl) ?_
        have hg := Option.some.inj hg
        subst hg
        exact TT_ret rfl rfl
def g_J6_bitCount_0f7a4 (n : Nat) (a0 : Int32) (I : IH) : Option (Int32 × IH) :=
  bnd ((a0 - (((Int32.toUInt32 a0 >>> (Int32.toUInt32 1 &&& Int32.toUInt32 31)).toInt32) &&& 1431655765))) fun x1 =>
  bnd (((x1 &&& 858993459) + (((Int32.toUInt32 x1 >>> (Int32.toUInt32 2 &&& Int32.toUInt32 31)).toInt32) &&& 858993459))) fun x2 =>
  bnd (((x2 + ((Int32.toUInt32 x2 >>> (Int32.toUInt32 4 &&& Int32.toUInt32 31)).toInt32)) &&& 252645135)) fun x3 =>
  bnd ((x3 + ((Int32.toUInt32 x3 >>> (Int32.toUInt32 8 &&& Int32.toUInt32 31)).toInt32))) fun x4 =>
  bnd ((x4 + ((Int32.toUInt32 x4 >>> (Int32.toUInt32 16 &&& Int32.toUInt32 31)).toInt32))) fun x5 =>
  some ((x5 &&& 63), I)
set_option maxRecDepth 20000 in
theorem t_J6_bitCount_0f7a4 {p : Nat} {n : Nat} {a0 : Int32} {I : IH} {w : Int32 × IH} (hg : g_J6_bitCount_0f7a4 n a0 I = some w) : TT none mt_J6_bitCount_0f7a4 0 (lv_args 0 [.int a0]) [] (83, I, R0 p) (some (.int w.1)) (83, w.2, R0 p) := by
  unfold g_J6_bitCount_0f7a4 at hg
  obtain ⟨x1, hx1⟩ : ∃ x : Int32, x = ((a0 - (((Int32.toUInt32 a0 >>> (Int32.toUInt32 1 &&& Int32.toUInt32 31)).toInt32) &&& 1431655765))) := ⟨_, rfl⟩
  replace hg := bnd_use hx1 hg
  refine TT_go 8 (pc' := 10) (lv' := [(0, .int x1)]) (st' := []) (h2 := (83, I, R0 p)) (by subst hx1; rfl) ?_
  obtain ⟨x2, hx2⟩ : ∃ x : Int32, x = (((x1 &&& 858993459) + (((Int32.toUInt32 x1 >>> (Int32.toUInt32 2 &&& Int32.toUInt32 31)).toInt32) &&& 858993459))) := ⟨_, rfl⟩
  replace hg := bnd_use hx2 hg
  refine TT_go 10 (pc' := 24) (lv' := [(0, .int x2)]) (st' := []) (h2 := (83, I, R0 p)) (by subst hx2; rfl) ?_
  obtain ⟨x3, hx3⟩ : ∃ x : Int32, x = (((x2 + ((Int32.toUInt32 x2 >>> (Int32.toUInt32 4 &&& Int32.toUInt32 31)).toInt32)) &&& 252645135)) := ⟨_, rfl⟩
  replace hg := bnd_use hx3 hg
  refine TT_go 8 (pc' := 34) (lv' := [(0, .int x3)]) (st' := []) (h2 := (83, I, R0 p)) (by subst hx3; rfl) ?_
  obtain ⟨x4, hx4⟩ : ∃ x : Int32, x = ((x3 + ((Int32.toUInt32 x3 >>> (Int32.toUInt32 8 &&& Int32.toUInt32 31)).toInt32))) := ⟨_, rfl⟩
  replace hg := bnd_use hx4 hg
  refine TT_go 6 (pc' := 41) (lv' := [(0, .int x4)]) (st' := []) (h2 := (83, I, R0 p)) (by subst hx4; rfl) ?_
  obtain ⟨x5, hx5⟩ : ∃ x : Int32, x = ((x4 + ((Int32.toUInt32 x4 >>> (Int32.toUInt32 16 &&& Int32.toUInt32 31)).toInt32))) := ⟨_, rfl⟩
  replace hg := bnd_use hx5 hg
  refine TT_go 6 (pc' := 48) (lv' := [(0, .int x5)]) (st' := []) (h2 := (83, I, R0 p)) (by subst hx5; rfl) ?_
  refine TT_go 3 (pc' := 52) (lv' := [(0, .int x5)]) (st' := [.int (x5 &&& 63)]) (h2 := (83, I, R0 p)) (by rfl) ?_
  have hg := Option.some.inj hg
  subst hg
  exact TT_ret rfl rfl
def g_X8_turn (n : Nat) (p : Nat) (a0 : Int32) (I : IH) : Option (Int32 × IH) :=
  match g_X8_isGlass n p a0 I with
  | none => none
  | some (r4, J3) =>
    if r4 = 0 then
      some ((-1), J3)
    else
      if inB a0 8 = true then
        bnd (J3 ((p + 9)) (Int32.toNatClampNeg a0)) fun x7 =>
        match g_X5_flip n 31 x7 J3 with
        | none => none
        | some J10 =>
          match g_X0_noteTurn n x7 J10 with
          | none => none
          | some J13 =>
            match g_J6_bitCount_0f7a4 n x7 J13 with
            | none => none
            | some (r17, J16) =>
              some (r17, J16)
      else none
set_option maxRecDepth 20000 in
theorem t_X8_turn {p : Nat} (hp : p = 5 ∨ p = 18) {n : Nat} {a0 : Int32} {I : IH} {w : Int32 × IH} (hg : g_X8_turn n p a0 I = some w) : TT none mt_X8_turn 0 (lv_args 0 [.ref 0, .int a0]) [] (83, I, R0 p) (some (.int w.1)) (83, w.2, R0 p) := by
  unfold g_X8_turn at hg
  refine TT_go 2 (pc' := 2) (lv' := [(0, .ref 0), (1, .int a0)]) (st' := [.int a0, .ref 0]) (h2 := (83, I, R0 p)) (by rcases hp with rfl | rfl <;> rfl) ?_
  cases hq1 : g_X8_isGlass n p a0 I with
  | none => rw [hq1] at hg; cases hg
  | some w2 =>
    obtain ⟨r4, J3⟩ := w2
    rw [hq1] at hg
    dsimp only at hg
    refine TT_call (me' := mt_X8_isGlass) (as := [.ref 0, .int a0]) (rest := []) (r1 := some (.int r4)) (h1 := (83, J3, R0 p)) rfl rfl (by rcases hp with rfl | rfl <;> rfl) (t_X8_isGlass hp hq1) ?_
    refine TT_go 0 (pc' := 5) (lv' := [(0, .ref 0), (1, .int a0)]) (st' := [.int r4]) (h2 := (83, J3, R0 p)) (by rcases hp with rfl | rfl <;> rfl) ?_
    by_cases hc5 : r4 = 0
    · rw [if_pos hc5] at hg
      refine TT_zne_f (t := 10) rfl rfl hc5 ?_
      refine TT_go 1 (pc' := 9) (lv' := [(0, .ref 0), (1, .int a0)]) (st' := [.int (-1)]) (h2 := (83, J3, R0 p)) (by rcases hp with rfl | rfl <;> rfl) ?_
      have hg := Option.some.inj hg
      subst hg
      exact TT_ret rfl rfl
    · rw [if_neg hc5] at hg
      refine TT_zne_t (t := 10) rfl rfl hc5 ?_
      refine TT_go 4 (pc' := 18) (lv' := [(0, .ref 0), (1, .int a0)]) (st' := [.int a0, .ref (p + 9)]) (h2 := (83, J3, R0 p)) (by rcases hp with rfl | rfl <;> rfl) ?_
      by_cases hb6 : inB a0 8 = true
      rotate_left
      · rw [if_neg hb6] at hg; cases hg
      rw [if_pos hb6] at hg
      refine TT_iald (n := 8) rfl (by rcases hp with rfl | rfl <;> rfl) hb6 ?_
      obtain ⟨x7, hx7⟩ : ∃ x : Int32, x = (J3 ((p + 9)) (Int32.toNatClampNeg a0)) := ⟨_, rfl⟩
      replace hg := bnd_use hx7 hg
      refine TT_go 0 (pc' := 19) (lv' := [(0, .ref 0), (1, .int a0)]) (st' := [.int x7]) (h2 := (83, J3, R0 p)) (by subst hx7; rcases hp with rfl | rfl <;> rfl) ?_
      refine TT_go 4 (pc' := 25) (lv' := [(2, .int x7), (0, .ref 0), (1, .int a0)]) (st' := [.int x7, .ref 31]) (h2 := (83, J3, R0 p)) (by rcases hp with rfl | rfl <;> rfl) ?_
      cases hq8 : g_X5_flip n 31 x7 J3 with
      | none => rw [hq8] at hg; cases hg
      | some w9 =>
        obtain ⟨J10, hJ10⟩ : ∃ J, J = w9 := ⟨_, rfl⟩
        rw [← hJ10] at hq8
        rw [hq8] at hg
        dsimp only at hg
        refine TT_call (me' := mt_X5_flip) (as := [.ref 31, .int x7]) (rest := []) (r1 := none) (h1 := (83, J10, R0 p)) rfl rfl (by rcases hp with rfl | rfl <;> rfl) (t_X5_flip (Or.inl rfl) hq8) ?_
        refine TT_go 3 (pc' := 33) (lv' := [(2, .int x7), (0, .ref 0), (1, .int a0)]) (st' := [.int x7, .ref 35]) (h2 := (83, J10, R0 p)) (by rcases hp with rfl | rfl <;> rfl) ?_
        cases hq11 : g_X0_noteTurn n x7 J10 with
        | none => rw [hq11] at hg; cases hg
        | some w12 =>
          obtain ⟨J13, hJ13⟩ : ∃ J, J = w12 := ⟨_, rfl⟩
          rw [← hJ13] at hq11
          rw [hq11] at hg
          dsimp only at hg
          refine TT_call (me' := mt_X0_noteTurn) (as := [.ref 35, .int x7]) (rest := []) (r1 := none) (h1 := (83, J13, R0 p)) rfl rfl (by rcases hp with rfl | rfl <;> rfl) (t_X0_noteTurn hq11) ?_
          refine TT_go 1 (pc' := 37) (lv' := [(2, .int x7), (0, .ref 0), (1, .int a0)]) (st' := [.int x7]) (h2 := (83, J13, R0 p)) (by rcases hp with rfl | rfl <;> rfl) ?_
          cases hq14 : g_J6_bitCount_0f7a4 n x7 J13 with
          | none => rw [hq14] at hg; cases hg
          | some w15 =>
            obtain ⟨r17, J16⟩ := w15
            rw [hq14] at hg
            dsimp only at hg
            refine TT_call (me' := mt_J6_bitCount_0f7a4) (as := [.int x7]) (rest := []) (r1 := some (.int r17)) (h1 := (83, J16, R0 p)) rfl rfl (by rcases hp with rfl | rfl <;> rfl) (t_J6_bitCount_0f7a4 hq14) ?_
            refine TT_go 0 (pc' := 40) (lv' := [(2, .int x7), (0, .ref 0), (1, .int a0)]) (st' := [.int r17]) (h2 := (83, J16, R0 p)) (by rcases hp with rfl | rfl <;> rfl) ?_
            have hg := Option.some.inj hg
            subst hg
            exact TT_ret rfl rfl
def g_X8_pour (n : Nat) (p : Nat) (a0 : Int32) (a1 : Int32) (a2 : Int32) (a3 : Int32) (a4 : Int32) (I : IH) : Option (Int32 × IH) :=
  match g_X8_isGlass n p a0 I with
  | none => none
  | some (r4, J3) =>
    if r4 = 0 then
      some ((-1), J3)
    else
      match g_X8_within n a1 0 1 J3 with
      | none => none
      | some (r9, J8) =>
        if r9 = 0 then
          some ((-1), J8)
        else
          match g_X8_isGlass n p a2 J8 with
          | none => none
          | some (r14, J13) =>
            if r14 = 0 then
              some ((-1), J13)
            else
              match g_X8_within n a3 0 1 J13 with
              | none => none
              | some (r19, J18) =>
                if r19 = 0 then
                  some ((-1), J18)
                else
                  match g_X8_within n a4 1 9999 J18 with
                  | none => none
                  | some (r24, J23) =>
                    if r24 = 0 then
                      some ((-1), J23)
                    else
                      bnd (((2 * a0) + a1)) fun x26 =>
                      bnd (((2 * a2) + a3)) fun x27 =>
                      if x26 = x27 then
                        some ((-1), J23)
                      else
                        if inB x26 16 = true then
                          bnd (J23 32 (Int32.toNatClampNeg x26)) fun x30 =>
                          if x30 < a4 then
                            some ((-2), J23)
                          else
                            if inB x27 16 = true then
                              bnd (J23 32 (Int32.toNatClampNeg x27)) fun x33 =>
                              if (x33 + a4) ≤ 9999 then
                                match g_X5_move n 31 x26 x27 a4 J23 with
                                | none => none
                                | some J37 =>
                                  match g_X0_notePouring n x26 x27 a4 J37 with
                                  | none => none
                                  | some J40 =>
                                    if inB x27 16 = true then
                                      bnd (J40 32 (Int32.toNatClampNeg x27)) fun x42 =>
                                      some (x42, J40)
                                    else none
                              else
                                some ((-2), J23)
                            else none
                        else none
set_option maxRecDepth 20000 in
theorem t_X8_pour {p : Nat} (hp : p = 5 ∨ p = 18) {n : Nat} {a0 : Int32} {a1 : Int32} {a2 : Int32} {a3 : Int32} {a4 : Int32} {I : IH} {w : Int32 × IH} (hg : g_X8_pour n p a0 a1 a2 a3 a4 I = some w) : TT none mt_X8_pour 0 (lv_args 0 [.ref 0, .int a0, .int a1, .int a2, .int a3, .int a4]) [] (83, I, R0 p) (some (.int w.1)) (83, w.2, R0 p) := by
  unfold g_X8_pour at hg
  refine TT_go 2 (pc' := 2) (lv' := [(0, .ref 0), (1, .int a0), (2, .int a1), (3, .int a2), (4, .int a3), (5, .int a4)]) (st' := [.int a0, .ref 0]) (h2 := (83, I, R0 p)) (by rcases hp with rfl | rfl <;> rfl) ?_
  cases hq1 : g_X8_isGlass n p a0 I with
  | none => rw [hq1] at hg; cases hg
  | some w2 =>
    obtain ⟨r4, J3⟩ := w2
    rw [hq1] at hg
    dsimp only at hg
    refine TT_call (me' := mt_X8_isGlass) (as := [.ref 0, .int a0]) (rest := []) (r1 := some (.int r4)) (h1 := (83, J3, R0 p)) rfl rfl (by rcases hp with rfl | rfl <;> rfl) (t_X8_isGlass hp hq1) ?_
    refine TT_go 0 (pc' := 5) (lv' := [(0, .ref 0), (1, .int a0), (2, .int a1), (3, .int a2), (4, .int a3), (5, .int a4)]) (st' := [.int r4]) (h2 := (83, J3, R0 p)) (by rcases hp with rfl | rfl <;> rfl) ?_
    by_cases hc5 : r4 = 0
    · rw [if_pos hc5] at hg
      refine TT_zeq_t (t := 47) rfl rfl hc5 ?_
      refine TT_go 1 (pc' := 48) (lv' := [(0, .ref 0), (1, .int a0), (2, .int a1), (3, .int a2), (4, .int a3), (5, .int a4)]) (st' := [.int (-1)]) (h2 := (83, J3, R0 p)) (by rcases hp with rfl | rfl <;> rfl) ?_
      have hg := Option.some.inj hg
      subst hg
      exact TT_ret rfl rfl
    · rw [if_neg hc5] at hg
      refine TT_zeq_f (t := 47) rfl rfl hc5 ?_
      refine TT_go 3 (pc' := 11) (lv' := [(0, .ref 0), (1, .int a0), (2, .int a1), (3, .int a2), (4, .int a3), (5, .int a4)]) (st' := [.int 1, .int 0, .int a1]) (h2 := (83, J3, R0 p)) (by rcases hp with rfl | rfl <;> rfl) ?_
      cases hq6 : g_X8_within n a1 0 1 J3 with
      | none => rw [hq6] at hg; cases hg
      | some w7 =>
        obtain ⟨r9, J8⟩ := w7
        rw [hq6] at hg
        dsimp only at hg
        refine TT_call (me' := mt_X8_within) (as := [.int a1, .int 0, .int 1]) (rest := []) (r1 := some (.int r9)) (h1 := (83, J8, R0 p)) rfl rfl (by rcases hp with rfl | rfl <;> rfl) (t_X8_within hq6) ?_
        refine TT_go 0 (pc' := 14) (lv' := [(0, .ref 0), (1, .int a0), (2, .int a1), (3, .int a2), (4, .int a3), (5, .int a4)]) (st' := [.int r9]) (h2 := (83, J8, R0 p)) (by rcases hp with rfl | rfl <;> rfl) ?_
        by_cases hc10 : r9 = 0
        · rw [if_pos hc10] at hg
          refine TT_zeq_t (t := 47) rfl rfl hc10 ?_
          refine TT_go 1 (pc' := 48) (lv' := [(0, .ref 0), (1, .int a0), (2, .int a1), (3, .int a2), (4, .int a3), (5, .int a4)]) (st' := [.int (-1)]) (h2 := (83, J8, R0 p)) (by rcases hp with rfl | rfl <;> rfl) ?_
          have hg := Option.some.inj hg
          subst hg
          exact TT_ret rfl rfl
        · rw [if_neg hc10] at hg
          refine TT_zeq_f (t := 47) rfl rfl hc10 ?_
          refine TT_go 2 (pc' := 19) (lv' := [(0, .ref 0), (1, .int a0), (2, .int a1), (3, .int a2), (4, .int a3), (5, .int a4)]) (st' := [.int a2, .ref 0]) (h2 := (83, J8, R0 p)) (by rcases hp with rfl | rfl <;> rfl) ?_
          cases hq11 : g_X8_isGlass n p a2 J8 with
          | none => rw [hq11] at hg; cases hg
          | some w12 =>
            obtain ⟨r14, J13⟩ := w12
            rw [hq11] at hg
            dsimp only at hg
            refine TT_call (me' := mt_X8_isGlass) (as := [.ref 0, .int a2]) (rest := []) (r1 := some (.int r14)) (h1 := (83, J13, R0 p)) rfl rfl (by rcases hp with rfl | rfl <;> rfl) (t_X8_isGlass hp hq11) ?_
            refine TT_go 0 (pc' := 22) (lv' := [(0, .ref 0), (1, .int a0), (2, .int a1), (3, .int a2), (4, .int a3), (5, .int a4)]) (st' := [.int r14]) (h2 := (83, J13, R0 p)) (by rcases hp with rfl | rfl <;> rfl) ?_
            by_cases hc15 : r14 = 0
            · rw [if_pos hc15] at hg
              refine TT_zeq_t (t := 47) rfl rfl hc15 ?_
              refine TT_go 1 (pc' := 48) (lv' := [(0, .ref 0), (1, .int a0), (2, .int a1), (3, .int a2), (4, .int a3), (5, .int a4)]) (st' := [.int (-1)]) (h2 := (83, J13, R0 p)) (by rcases hp with rfl | rfl <;> rfl) ?_
              have hg := Option.some.inj hg
              subst hg
              exact TT_ret rfl rfl
            · rw [if_neg hc15] at hg
              refine TT_zeq_f (t := 47) rfl rfl hc15 ?_
              refine TT_go 3 (pc' := 29) (lv' := [(0, .ref 0), (1, .int a0), (2, .int a1), (3, .int a2), (4, .int a3), (5, .int a4)]) (st' := [.int 1, .int 0, .int a3]) (h2 := (83, J13, R0 p)) (by rcases hp with rfl | rfl <;> rfl) ?_
              cases hq16 : g_X8_within n a3 0 1 J13 with
              | none => rw [hq16] at hg; cases hg
              | some w17 =>
                obtain ⟨r19, J18⟩ := w17
                rw [hq16] at hg
                dsimp only at hg
                refine TT_call (me' := mt_X8_within) (as := [.int a3, .int 0, .int 1]) (rest := []) (r1 := some (.int r19)) (h1 := (83, J18, R0 p)) rfl rfl (by rcases hp with rfl | rfl <;> rfl) (t_X8_within hq16) ?_
                refine TT_go 0 (pc' := 32) (lv' := [(0, .ref 0), (1, .int a0), (2, .int a1), (3, .int a2), (4, .int a3), (5, .int a4)]) (st' := [.int r19]) (h2 := (83, J18, R0 p)) (by rcases hp with rfl | rfl <;> rfl) ?_
                by_cases hc20 : r19 = 0
                · rw [if_pos hc20] at hg
                  refine TT_zeq_t (t := 47) rfl rfl hc20 ?_
                  refine TT_go 1 (pc' := 48) (lv' := [(0, .ref 0), (1, .int a0), (2, .int a1), (3, .int a2), (4, .int a3), (5, .int a4)]) (st' := [.int (-1)]) (h2 := (83, J18, R0 p)) (by rcases hp with rfl | rfl <;> rfl) ?_
                  have hg := Option.some.inj hg
                  subst hg
                  exact TT_ret rfl rfl
                · rw [if_neg hc20] at hg
                  refine TT_zeq_f (t := 47) rfl rfl hc20 ?_
                  refine TT_go 3 (pc' := 41) (lv' := [(0, .ref 0), (1, .int a0), (2, .int a1), (3, .int a2), (4, .int a3), (5, .int a4)]) (st' := [.int 9999, .int 1, .int a4]) (h2 := (83, J18, R0 p)) (by rcases hp with rfl | rfl <;> rfl) ?_
                  cases hq21 : g_X8_within n a4 1 9999 J18 with
                  | none => rw [hq21] at hg; cases hg
                  | some w22 =>
                    obtain ⟨r24, J23⟩ := w22
                    rw [hq21] at hg
                    dsimp only at hg
                    refine TT_call (me' := mt_X8_within) (as := [.int a4, .int 1, .int 9999]) (rest := []) (r1 := some (.int r24)) (h1 := (83, J23, R0 p)) rfl rfl (by rcases hp with rfl | rfl <;> rfl) (t_X8_within hq21) ?_
                    refine TT_go 0 (pc' := 44) (lv' := [(0, .ref 0), (1, .int a0), (2, .int a1), (3, .int a2), (4, .int a3), (5, .int a4)]) (st' := [.int r24]) (h2 := (83, J23, R0 p)) (by rcases hp with rfl | rfl <;> rfl) ?_
                    by_cases hc25 : r24 = 0
                    · rw [if_pos hc25] at hg
                      refine TT_zne_f (t := 49) rfl rfl hc25 ?_
                      refine TT_go 1 (pc' := 48) (lv' := [(0, .ref 0), (1, .int a0), (2, .int a1), (3, .int a2), (4, .int a3), (5, .int a4)]) (st' := [.int (-1)]) (h2 := (83, J23, R0 p)) (by rcases hp with rfl | rfl <;> rfl) ?_
                      have hg := Option.some.inj hg
                      subst hg
                      exact TT_ret rfl rfl
                    · rw [if_neg hc25] at hg
                      refine TT_zne_t (t := 49) rfl rfl hc25 ?_
                      obtain ⟨x26, hx26⟩ : ∃ x : Int32, x = (((2 * a0) + a1)) := ⟨_, rfl⟩
                      replace hg := bnd_use hx26 hg
                      refine TT_go 6 (pc' := 56) (lv' := [(6, .int x26), (0, .ref 0), (1, .int a0), (2, .int a1), (3, .int a2), (4, .int a3), (5, .int a4)]) (st' := []) (h2 := (83, J23, R0 p)) (by subst hx26; rcases hp with rfl | rfl <;> rfl) ?_
                      obtain ⟨x27, hx27⟩ : ∃ x : Int32, x = (((2 * a2) + a3)) := ⟨_, rfl⟩
                      replace hg := bnd_use hx27 hg
                      refine TT_go 6 (pc' := 64) (lv' := [(7, .int x27), (6, .int x26), (0, .ref 0), (1, .int a0), (2, .int a1), (3, .int a2), (4, .int a3), (5, .int a4)]) (st' := []) (h2 := (83, J23, R0 p)) (by subst hx27; rcases hp with rfl | rfl <;> rfl) ?_
                      refine TT_go 2 (pc' := 68) (lv' := [(7, .int x27), (6, .int x26), (0, .ref 0), (1, .int a0), (2, .int a1), (3, .int a2), (4, .int a3), (5, .int a4)]) (st' := [.int x27, .int x26]) (h2 := (83, J23, R0 p)) (by rcases hp with rfl | rfl <;> rfl) ?_
                      by_cases hc28 : x26 = x27
                      · rw [if_pos hc28] at hg
                        refine TT_ine_f (t := 73) rfl rfl hc28 ?_
                        refine TT_go 1 (pc' := 72) (lv' := [(7, .int x27), (6, .int x26), (0, .ref 0), (1, .int a0), (2, .int a1), (3, .int a2), (4, .int a3), (5, .int a4)]) (st' := [.int (-1)]) (h2 := (83, J23, R0 p)) (by rcases hp with rfl | rfl <;> rfl) ?_
                        have hg := Option.some.inj hg
                        subst hg
                        exact TT_ret rfl rfl
                      · rw [if_neg hc28] at hg
                        refine TT_ine_t (t := 73) rfl rfl hc28 ?_
                        refine TT_go 4 (pc' := 82) (lv' := [(7, .int x27), (6, .int x26), (0, .ref 0), (1, .int a0), (2, .int a1), (3, .int a2), (4, .int a3), (5, .int a4)]) (st' := [.int x26, .ref 32]) (h2 := (83, J23, R0 p)) (by rcases hp with rfl | rfl <;> rfl) ?_
                        by_cases hb29 : inB x26 16 = true
                        rotate_left
                        · rw [if_neg hb29] at hg; cases hg
                        rw [if_pos hb29] at hg
                        refine TT_iald (n := 16) rfl (by rcases hp with rfl | rfl <;> rfl) hb29 ?_
                        obtain ⟨x30, hx30⟩ : ∃ x : Int32, x = (J23 32 (Int32.toNatClampNeg x26)) := ⟨_, rfl⟩
                        replace hg := bnd_use hx30 hg
                        refine TT_go 0 (pc' := 83) (lv' := [(7, .int x27), (6, .int x26), (0, .ref 0), (1, .int a0), (2, .int a1), (3, .int a2), (4, .int a3), (5, .int a4)]) (st' := [.int x30]) (h2 := (83, J23, R0 p)) (by subst hx30; rcases hp with rfl | rfl <;> rfl) ?_
                        refine TT_go 1 (pc' := 85) (lv' := [(7, .int x27), (6, .int x26), (0, .ref 0), (1, .int a0), (2, .int a1), (3, .int a2), (4, .int a3), (5, .int a4)]) (st' := [.int a4, .int x30]) (h2 := (83, J23, R0 p)) (by rcases hp with rfl | rfl <;> rfl) ?_
                        by_cases hc31 : x30 < a4
                        · rw [if_pos hc31] at hg
                          refine TT_ilt_t (t := 107) rfl rfl hc31 ?_
                          refine TT_go 1 (pc' := 109) (lv' := [(7, .int x27), (6, .int x26), (0, .ref 0), (1, .int a0), (2, .int a1), (3, .int a2), (4, .int a3), (5, .int a4)]) (st' := [.int (-2)]) (h2 := (83, J23, R0 p)) (by rcases hp with rfl | rfl <;> rfl) ?_
                          have hg := Option.some.inj hg
                          subst hg
                          exact TT_ret rfl rfl
                        · rw [if_neg hc31] at hg
                          refine TT_ilt_f (t := 107) rfl rfl hc31 ?_
                          refine TT_go 4 (pc' := 97) (lv' := [(7, .int x27), (6, .int x26), (0, .ref 0), (1, .int a0), (2, .int a1), (3, .int a2), (4, .int a3), (5, .int a4)]) (st' := [.int x27, .ref 32]) (h2 := (83, J23, R0 p)) (by rcases hp with rfl | rfl <;> rfl) ?_
                          by_cases hb32 : inB x27 16 = true
                          rotate_left
                          · rw [if_neg hb32] at hg; cases hg
                          rw [if_pos hb32] at hg
                          refine TT_iald (n := 16) rfl (by rcases hp with rfl | rfl <;> rfl) hb32 ?_
                          obtain ⟨x33, hx33⟩ : ∃ x : Int32, x = (J23 32 (Int32.toNatClampNeg x27)) := ⟨_, rfl⟩
                          replace hg := bnd_use hx33 hg
                          refine TT_go 0 (pc' := 98) (lv' := [(7, .int x27), (6, .int x26), (0, .ref 0), (1, .int a0), (2, .int a1), (3, .int a2), (4, .int a3), (5, .int a4)]) (st' := [.int x33]) (h2 := (83, J23, R0 p)) (by subst hx33; rcases hp with rfl | rfl <;> rfl) ?_
                          refine TT_go 3 (pc' := 104) (lv' := [(7, .int x27), (6, .int x26), (0, .ref 0), (1, .int a0), (2, .int a1), (3, .int a2), (4, .int a3), (5, .int a4)]) (st' := [.int 9999, .int (x33 + a4)]) (h2 := (83, J23, R0 p)) (by rcases hp with rfl | rfl <;> rfl) ?_
                          by_cases hc34 : (x33 + a4) ≤ 9999
                          · rw [if_pos hc34] at hg
                            refine TT_ile_t (t := 110) rfl rfl hc34 ?_
                            refine TT_go 5 (pc' := 120) (lv' := [(7, .int x27), (6, .int x26), (0, .ref 0), (1, .int a0), (2, .int a1), (3, .int a2), (4, .int a3), (5, .int a4)]) (st' := [.int a4, .int x27, .int x26, .ref 31]) (h2 := (83, J23, R0 p)) (by rcases hp with rfl | rfl <;> rfl) ?_
                            cases hq35 : g_X5_move n 31 x26 x27 a4 J23 with
                            | none => rw [hq35] at hg; cases hg
                            | some w36 =>
                              obtain ⟨J37, hJ37⟩ : ∃ J, J = w36 := ⟨_, rfl⟩
                              rw [← hJ37] at hq35
                              rw [hq35] at hg
                              dsimp only at hg
                              refine TT_call (me' := mt_X5_move) (as := [.ref 31, .int x26, .int x27, .int a4]) (rest := []) (r1 := none) (h1 := (83, J37, R0 p)) rfl rfl (by rcases hp with rfl | rfl <;> rfl) (t_X5_move (Or.inl rfl) hq35) ?_
                              refine TT_go 5 (pc' := 133) (lv' := [(7, .int x27), (6, .int x26), (0, .ref 0), (1, .int a0), (2, .int a1), (3, .int a2), (4, .int a3), (5, .int a4)]) (st' := [.int a4, .int x27, .int x26, .ref 35]) (h2 := (83, J37, R0 p)) (by rcases hp with rfl | rfl <;> rfl) ?_
                              cases hq38 : g_X0_notePouring n x26 x27 a4 J37 with
                              | none => rw [hq38] at hg; cases hg
                              | some w39 =>
                                obtain ⟨J40, hJ40⟩ : ∃ J, J = w39 := ⟨_, rfl⟩
                                rw [← hJ40] at hq38
                                rw [hq38] at hg
                                dsimp only at hg
                                refine TT_call (me' := mt_X0_notePouring) (as := [.ref 35, .int x26, .int x27, .int a4]) (rest := []) (r1 := none) (h1 := (83, J40, R0 p)) rfl rfl (by rcases hp with rfl | rfl <;> rfl) (t_X0_notePouring hq38) ?_
                                refine TT_go 4 (pc' := 145) (lv' := [(7, .int x27), (6, .int x26), (0, .ref 0), (1, .int a0), (2, .int a1), (3, .int a2), (4, .int a3), (5, .int a4)]) (st' := [.int x27, .ref 32]) (h2 := (83, J40, R0 p)) (by rcases hp with rfl | rfl <;> rfl) ?_
                                by_cases hb41 : inB x27 16 = true
                                rotate_left
                                · rw [if_neg hb41] at hg; cases hg
                                rw [if_pos hb41] at hg
                                refine TT_iald (n := 16) rfl (by rcases hp with rfl | rfl <;> rfl) hb41 ?_
                                obtain ⟨x42, hx42⟩ : ∃ x : Int32, x = (J40 32 (Int32.toNatClampNeg x27)) := ⟨_, rfl⟩
                                replace hg := bnd_use hx42 hg
                                refine TT_go 0 (pc' := 146) (lv' := [(7, .int x27), (6, .int x26), (0, .ref 0), (1, .int a0), (2, .int a1), (3, .int a2), (4, .int a3), (5, .int a4)]) (st' := [.int x42]) (h2 := (83, J40, R0 p)) (by subst hx42; rcases hp with rfl | rfl <;> rfl) ?_
                                have hg := Option.some.inj hg
                                subst hg
                                exact TT_ret rfl rfl
                          · rw [if_neg hc34] at hg
                            refine TT_ile_f (t := 110) rfl rfl hc34 ?_
                            refine TT_go 1 (pc' := 109) (lv' := [(7, .int x27), (6, .int x26), (0, .ref 0), (1, .int a0), (2, .int a1), (3, .int a2), (4, .int a3), (5, .int a4)]) (st' := [.int (-2)]) (h2 := (83, J23, R0 p)) (by rcases hp with rfl | rfl <;> rfl) ?_
                            have hg := Option.some.inj hg
                            subst hg
                            exact TT_ret rfl rfl
def g_X8_undo (n : Nat) (p : Nat) (I : IH) : Option (Int32 × IH) :=
  if (I 35 0) = 0 then
    some ((-2), I)
  else
    match g_X0_takeBack n I with
    | none => none
    | some J4 =>
      some ((J4 35 0), J4)
set_option maxRecDepth 20000 in
theorem t_X8_undo {p : Nat} (hp : p = 5 ∨ p = 18) {n : Nat} {I : IH} {w : Int32 × IH} (hg : g_X8_undo n p I = some w) : TT none mt_X8_undo 0 (lv_args 0 [.ref 0]) [] (83, I, R0 p) (some (.int w.1)) (83, w.2, R0 p) := by
  unfold g_X8_undo at hg
  refine TT_go 3 (pc' := 7) (lv' := [(0, .ref 0)]) (st' := [.int (I 35 0)]) (h2 := (83, I, R0 p)) (by rcases hp with rfl | rfl <;> rfl) ?_
  by_cases hc1 : (I 35 0) = 0
  · rw [if_pos hc1] at hg
    refine TT_zne_f (t := 13) rfl rfl hc1 ?_
    refine TT_go 1 (pc' := 12) (lv' := [(0, .ref 0)]) (st' := [.int (-2)]) (h2 := (83, I, R0 p)) (by rcases hp with rfl | rfl <;> rfl) ?_
    have hg := Option.some.inj hg
    subst hg
    exact TT_ret rfl rfl
  · rw [if_neg hc1] at hg
    refine TT_zne_t (t := 13) rfl rfl hc1 ?_
    refine TT_go 4 (pc' := 21) (lv' := [(0, .ref 0)]) (st' := [.ref 31, .ref 35]) (h2 := (83, I, R0 p)) (by rcases hp with rfl | rfl <;> rfl) ?_
    cases hq2 : g_X0_takeBack n I with
    | none => rw [hq2] at hg; cases hg
    | some w3 =>
      obtain ⟨J4, hJ4⟩ : ∃ J, J = w3 := ⟨_, rfl⟩
      rw [← hJ4] at hq2
      rw [hq2] at hg
      dsimp only at hg
      refine TT_call (me' := mt_X0_takeBack) (as := [.ref 35, .ref 31]) (rest := []) (r1 := none) (h1 := (83, J4, R0 p)) rfl rfl (by rcases hp with rfl | rfl <;> rfl) (t_X0_takeBack hq2) ?_
      refine TT_go 3 (pc' := 31) (lv' := [(0, .ref 0)]) (st' := [.int (J4 35 0)]) (h2 := (83, J4, R0 p)) (by rcases hp with rfl | rfl <;> rfl) ?_
      have hg := Option.some.inj hg
      subst hg
      exact TT_ret rfl rfl
def g_X8_lookAhead (n : Nat) (p : Nat) (a0 : Int32) (a1 : Int32) (a2 : Int32) (I : IH) : Option (IH) :=
  match g_X5_copyFrom n 33 31 I with
  | none => none
  | some J3 =>
    match g_X5_goOn n 33 p a0 a1 a2 J3 with
    | none => none
    | some J6 =>
      some J6
set_option maxRecDepth 20000 in
theorem t_X8_lookAhead {p : Nat} (hp : p = 5 ∨ p = 18) {n : Nat} {a0 : Int32} {a1 : Int32} {a2 : Int32} {I : IH} {w : IH} (hg : g_X8_lookAhead n p a0 a1 a2 I = some w) : TT none mt_X8_lookAhead 0 (lv_args 0 [.ref 0, .int a0, .int a1, .int a2]) [] (83, I, R0 p) (some (.ref 33)) (83, w, R0 p) := by
  unfold g_X8_lookAhead at hg
  refine TT_go 4 (pc' := 8) (lv' := [(0, .ref 0), (1, .int a0), (2, .int a1), (3, .int a2)]) (st' := [.ref 31, .ref 33]) (h2 := (83, I, R0 p)) (by rcases hp with rfl | rfl <;> rfl) ?_
  cases hq1 : g_X5_copyFrom n 33 31 I with
  | none => rw [hq1] at hg; cases hg
  | some w2 =>
    obtain ⟨J3, hJ3⟩ : ∃ J, J = w2 := ⟨_, rfl⟩
    rw [← hJ3] at hq1
    rw [hq1] at hg
    dsimp only at hg
    refine TT_call (me' := mt_X5_copyFrom) (as := [.ref 33, .ref 31]) (rest := []) (r1 := none) (h1 := (83, J3, R0 p)) rfl rfl (by rcases hp with rfl | rfl <;> rfl) (t_X5_copyFrom (Or.inr (Or.inl rfl)) (Or.inl rfl) hq1) ?_
    refine TT_go 7 (pc' := 22) (lv' := [(0, .ref 0), (1, .int a0), (2, .int a1), (3, .int a2)]) (st' := [.int a2, .int a1, .int a0, .ref p, .ref 33]) (h2 := (83, J3, R0 p)) (by rcases hp with rfl | rfl <;> rfl) ?_
    cases hq4 : g_X5_goOn n 33 p a0 a1 a2 J3 with
    | none => rw [hq4] at hg; cases hg
    | some w5 =>
      obtain ⟨J6, hJ6⟩ : ∃ J, J = w5 := ⟨_, rfl⟩
      rw [← hJ6] at hq4
      rw [hq4] at hg
      dsimp only at hg
      refine TT_call (me' := mt_X5_goOn) (as := [.ref 33, .ref p, .int a0, .int a1, .int a2]) (rest := []) (r1 := none) (h1 := (83, J6, R0 p)) rfl rfl (by rcases hp with rfl | rfl <;> rfl) (t_X5_goOn (Or.inr rfl) hp hq4) ?_
      refine TT_go 2 (pc' := 29) (lv' := [(0, .ref 0), (1, .int a0), (2, .int a1), (3, .int a2)]) (st' := [.ref 33]) (h2 := (83, J6, R0 p)) (by rcases hp with rfl | rfl <;> rfl) ?_
      have hg := Option.some.inj hg
      subst hg
      exact TT_ret rfl rfl
def g_X8_later (n : Nat) (p : Nat) (a0 : Int32) (a1 : Int32) (I : IH) : Option (Int32 × IH) :=
  match g_X8_within n a0 0 20000 I with
  | none => none
  | some (r4, J3) =>
    if r4 = 0 then
      some ((-1), J3)
    else
      match g_X8_isHand n a1 J3 with
      | none => none
      | some (r9, J8) =>
        if r9 = 0 then
          some ((-1), J8)
        else
          match g_X8_lookAhead n p a0 (-1) 0 J8 with
          | none => none
          | some J13 =>
            match g_X5_grainsOf n 33 p a1 J13 with
            | none => none
            | some (r17, J16) =>
              some (r17, J16)
set_option maxRecDepth 20000 in
theorem t_X8_later {p : Nat} (hp : p = 5 ∨ p = 18) {n : Nat} {a0 : Int32} {a1 : Int32} {I : IH} {w : Int32 × IH} (hg : g_X8_later n p a0 a1 I = some w) : TT none mt_X8_later 0 (lv_args 0 [.ref 0, .int a0, .int a1]) [] (83, I, R0 p) (some (.int w.1)) (83, w.2, R0 p) := by
  unfold g_X8_later at hg
  refine TT_go 3 (pc' := 5) (lv' := [(0, .ref 0), (1, .int a0), (2, .int a1)]) (st' := [.int 20000, .int 0, .int a0]) (h2 := (83, I, R0 p)) (by rcases hp with rfl | rfl <;> rfl) ?_
  cases hq1 : g_X8_within n a0 0 20000 I with
  | none => rw [hq1] at hg; cases hg
  | some w2 =>
    obtain ⟨r4, J3⟩ := w2
    rw [hq1] at hg
    dsimp only at hg
    refine TT_call (me' := mt_X8_within) (as := [.int a0, .int 0, .int 20000]) (rest := []) (r1 := some (.int r4)) (h1 := (83, J3, R0 p)) rfl rfl (by rcases hp with rfl | rfl <;> rfl) (t_X8_within hq1) ?_
    refine TT_go 0 (pc' := 8) (lv' := [(0, .ref 0), (1, .int a0), (2, .int a1)]) (st' := [.int r4]) (h2 := (83, J3, R0 p)) (by rcases hp with rfl | rfl <;> rfl) ?_
    by_cases hc5 : r4 = 0
    · rw [if_pos hc5] at hg
      refine TT_zeq_t (t := 18) rfl rfl hc5 ?_
      refine TT_go 1 (pc' := 19) (lv' := [(0, .ref 0), (1, .int a0), (2, .int a1)]) (st' := [.int (-1)]) (h2 := (83, J3, R0 p)) (by rcases hp with rfl | rfl <;> rfl) ?_
      have hg := Option.some.inj hg
      subst hg
      exact TT_ret rfl rfl
    · rw [if_neg hc5] at hg
      refine TT_zeq_f (t := 18) rfl rfl hc5 ?_
      refine TT_go 1 (pc' := 12) (lv' := [(0, .ref 0), (1, .int a0), (2, .int a1)]) (st' := [.int a1]) (h2 := (83, J3, R0 p)) (by rcases hp with rfl | rfl <;> rfl) ?_
      cases hq6 : g_X8_isHand n a1 J3 with
      | none => rw [hq6] at hg; cases hg
      | some w7 =>
        obtain ⟨r9, J8⟩ := w7
        rw [hq6] at hg
        dsimp only at hg
        refine TT_call (me' := mt_X8_isHand) (as := [.int a1]) (rest := []) (r1 := some (.int r9)) (h1 := (83, J8, R0 p)) rfl rfl (by rcases hp with rfl | rfl <;> rfl) (t_X8_isHand hq6) ?_
        refine TT_go 0 (pc' := 15) (lv' := [(0, .ref 0), (1, .int a0), (2, .int a1)]) (st' := [.int r9]) (h2 := (83, J8, R0 p)) (by rcases hp with rfl | rfl <;> rfl) ?_
        by_cases hc10 : r9 = 0
        · rw [if_pos hc10] at hg
          refine TT_zne_f (t := 20) rfl rfl hc10 ?_
          refine TT_go 1 (pc' := 19) (lv' := [(0, .ref 0), (1, .int a0), (2, .int a1)]) (st' := [.int (-1)]) (h2 := (83, J8, R0 p)) (by rcases hp with rfl | rfl <;> rfl) ?_
          have hg := Option.some.inj hg
          subst hg
          exact TT_ret rfl rfl
        · rw [if_neg hc10] at hg
          refine TT_zne_t (t := 20) rfl rfl hc10 ?_
          refine TT_go 4 (pc' := 24) (lv' := [(0, .ref 0), (1, .int a0), (2, .int a1)]) (st' := [.int 0, .int (-1), .int a0, .ref 0]) (h2 := (83, J8, R0 p)) (by rcases hp with rfl | rfl <;> rfl) ?_
          cases hq11 : g_X8_lookAhead n p a0 (-1) 0 J8 with
          | none => rw [hq11] at hg; cases hg
          | some w12 =>
            obtain ⟨J13, hJ13⟩ : ∃ J, J = w12 := ⟨_, rfl⟩
            rw [← hJ13] at hq11
            rw [hq11] at hg
            dsimp only at hg
            refine TT_call (me' := mt_X8_lookAhead) (as := [.ref 0, .int a0, .int (-1), .int 0]) (rest := []) (r1 := some (.ref 33)) (h1 := (83, J13, R0 p)) rfl rfl (by rcases hp with rfl | rfl <;> rfl) (t_X8_lookAhead hp hq11) ?_
            refine TT_go 3 (pc' := 32) (lv' := [(0, .ref 0), (1, .int a0), (2, .int a1)]) (st' := [.int a1, .ref p, .ref 33]) (h2 := (83, J13, R0 p)) (by rcases hp with rfl | rfl <;> rfl) ?_
            cases hq14 : g_X5_grainsOf n 33 p a1 J13 with
            | none => rw [hq14] at hg; cases hg
            | some w15 =>
              obtain ⟨r17, J16⟩ := w15
              rw [hq14] at hg
              dsimp only at hg
              refine TT_call (me' := mt_X5_grainsOf) (as := [.ref 33, .ref p, .int a1]) (rest := []) (r1 := some (.int r17)) (h1 := (83, J16, R0 p)) rfl rfl (by rcases hp with rfl | rfl <;> rfl) (t_X5_grainsOf (Or.inr rfl) hp hq14) ?_
              refine TT_go 0 (pc' := 35) (lv' := [(0, .ref 0), (1, .int a0), (2, .int a1)]) (st' := [.int r17]) (h2 := (83, J16, R0 p)) (by rcases hp with rfl | rfl <;> rfl) ?_
              have hg := Option.some.inj hg
              subst hg
              exact TT_ret rfl rfl
def g_X8_falls_54 (p : Nat) : Nat → Int32 → Int32 → Int32 → Int32 → IH → Option (Int32 × IH)
  | 0, _, _, _, _, _ => none
  | n + 1, v1, v4, v5, v6, I =>
    if v1 ≤ v6 then
      some (v5, I)
    else
      if inB v4 16 = true then
        bnd (I 34 (Int32.toNatClampNeg v4)) fun x22 =>
        match g_X5_goOn n 33 p 1 (-1) 0 I with
        | none => none
        | some J25 =>
          if inB v4 16 = true then
            bnd (J25 34 (Int32.toNatClampNeg v4)) fun x27 =>
            bnd ((v5 + (if 0 < (x22 - x27) then (x22 - x27) else 0))) fun x28 =>
            bnd (v6 + 1) fun x29 =>
            g_X8_falls_54 p n v1 v4 x28 x29 J25
          else none
      else none
set_option maxRecDepth 20000 in
theorem t_X8_falls_54 {p : Nat} (hp : p = 5 ∨ p = 18) : ∀ (n : Nat) (v1 : Int32) (v4 : Int32) (v5 : Int32) (v6 : Int32) (I : IH) (w : Int32 × IH), g_X8_falls_54 p n v1 v4 v5 v6 I = some w → TT none mt_X8_falls 54 [(0, .ref 0), (1, .int v1), (4, .int v4), (5, .int v5), (6, .int v6)] [] (83, I, R0 p) (some (.int w.1)) (83, w.2, R0 p) := by
  intro n
  induction n with
  | zero => intro v1 v4 v5 v6 I w hg; cases hg
  | succ n ih =>
    intro v1 v4 v5 v6 I w hg
    unfold g_X8_falls_54 at hg
    refine TT_go 2 (pc' := 57) (lv' := [(0, .ref 0), (1, .int v1), (4, .int v4), (5, .int v5), (6, .int v6)]) (st' := [.int v1, .int v6]) (h2 := (83, I, R0 p)) (by rcases hp with rfl | rfl <;> rfl) ?_
    by_cases hc20 : v1 ≤ v6
    · rw [if_pos hc20] at hg
      refine TT_ige_t (t := 114) rfl rfl hc20 ?_
      refine TT_go 1 (pc' := 116) (lv' := [(0, .ref 0), (1, .int v1), (4, .int v4), (5, .int v5), (6, .int v6)]) (st' := [.int v5]) (h2 := (83, I, R0 p)) (by rcases hp with rfl | rfl <;> rfl) ?_
      have hg := Option.some.inj hg
      subst hg
      exact TT_ret rfl rfl
    · rw [if_neg hc20] at hg
      refine TT_ige_f (t := 114) rfl rfl hc20 ?_
      refine TT_go 4 (pc' := 69) (lv' := [(0, .ref 0), (1, .int v1), (4, .int v4), (5, .int v5), (6, .int v6)]) (st' := [.int v4, .ref 34]) (h2 := (83, I, R0 p)) (by rcases hp with rfl | rfl <;> rfl) ?_
      by_cases hb21 : inB v4 16 = true
      rotate_left
      · rw [if_neg hb21] at hg; cases hg
      rw [if_pos hb21] at hg
      refine TT_iald (n := 16) rfl (by rcases hp with rfl | rfl <;> rfl) hb21 ?_
      obtain ⟨x22, hx22⟩ : ∃ x : Int32, x = (I 34 (Int32.toNatClampNeg v4)) := ⟨_, rfl⟩
      replace hg := bnd_use hx22 hg
      refine TT_go 0 (pc' := 70) (lv' := [(0, .ref 0), (1, .int v1), (4, .int v4), (5, .int v5), (6, .int v6)]) (st' := [.int x22]) (h2 := (83, I, R0 p)) (by subst hx22; rcases hp with rfl | rfl <;> rfl) ?_
      refine TT_go 8 (pc' := 83) (lv' := [(7, .int x22), (0, .ref 0), (1, .int v1), (4, .int v4), (5, .int v5), (6, .int v6)]) (st' := [.int 0, .int (-1), .int 1, .ref p, .ref 33]) (h2 := (83, I, R0 p)) (by rcases hp with rfl | rfl <;> rfl) ?_
      cases hq23 : g_X5_goOn n 33 p 1 (-1) 0 I with
      | none => rw [hq23] at hg; cases hg
      | some w24 =>
        obtain ⟨J25, hJ25⟩ : ∃ J, J = w24 := ⟨_, rfl⟩
        rw [← hJ25] at hq23
        rw [hq23] at hg
        dsimp only at hg
        refine TT_call (me' := mt_X5_goOn) (as := [.ref 33, .ref p, .int 1, .int (-1), .int 0]) (rest := []) (r1 := none) (h1 := (83, J25, R0 p)) rfl rfl (by rcases hp with rfl | rfl <;> rfl) (t_X5_goOn (Or.inr rfl) hp hq23) ?_
        refine TT_go 7 (pc' := 100) (lv' := [(7, .int x22), (0, .ref 0), (1, .int v1), (4, .int v4), (5, .int v5), (6, .int v6)]) (st' := [.int v4, .ref 34, .int x22, .int 0, .int v5]) (h2 := (83, J25, R0 p)) (by rcases hp with rfl | rfl <;> rfl) ?_
        by_cases hb26 : inB v4 16 = true
        rotate_left
        · rw [if_neg hb26] at hg; cases hg
        rw [if_pos hb26] at hg
        refine TT_iald (n := 16) rfl (by rcases hp with rfl | rfl <;> rfl) hb26 ?_
        obtain ⟨x27, hx27⟩ : ∃ x : Int32, x = (J25 34 (Int32.toNatClampNeg v4)) := ⟨_, rfl⟩
        replace hg := bnd_use hx27 hg
        refine TT_go 0 (pc' := 101) (lv' := [(7, .int x22), (0, .ref 0), (1, .int v1), (4, .int v4), (5, .int v5), (6, .int v6)]) (st' := [.int x27, .int x22, .int 0, .int v5]) (h2 := (83, J25, R0 p)) (by subst hx27; rcases hp with rfl | rfl <;> rfl) ?_
        obtain ⟨x28, hx28⟩ : ∃ x : Int32, x = ((v5 + (if 0 < (x22 - x27) then (x22 - x27) else 0))) := ⟨_, rfl⟩
        replace hg := bnd_use hx28 hg
        refine TT_go 4 (pc' := 108) (lv' := [(5, .int x28), (7, .int x22), (0, .ref 0), (1, .int v1), (4, .int v4), (6, .int v6)]) (st' := []) (h2 := (83, J25, R0 p)) (by subst hx28; rcases hp with rfl | rfl <;> rfl) ?_
        obtain ⟨x29, hx29⟩ : ∃ x : Int32, x = (v6 + 1) := ⟨_, rfl⟩
        replace hg := bnd_use hx29 hg
        refine TT_go 1 (pc' := 111) (lv' := [(6, .int x29), (5, .int x28), (7, .int x22), (0, .ref 0), (1, .int v1), (4, .int v4)]) (st' := []) (h2 := (83, J25, R0 p)) (by subst hx29; rcases hp with rfl | rfl <;> rfl) ?_
        refine TT_go 1 (pc' := 54) (lv' := [(6, .int x29), (5, .int x28), (7, .int x22), (0, .ref 0), (1, .int v1), (4, .int v4)]) (st' := []) (h2 := (83, J25, R0 p)) (by rcases hp with rfl | rfl <;> rfl) ?_
        refine TT_sub (lv2 := [(0, .ref 0), (1, .int v1), (4, .int v4), (5, .int x28), (6, .int x29)]) rfl rfl ⟨rfl, rfl, rfl, rfl, rfl, trivial⟩ ?_
        exact ih v1 v4 x28 x29 _ _ hg
def g_X8_falls (n : Nat) (p : Nat) (a0 : Int32) (a1 : Int32) (a2 : Int32) (I : IH) : Option (Int32 × IH) :=
  match g_X8_within n a0 0 20000 I with
  | none => none
  | some (r4, J3) =>
    if r4 = 0 then
      some ((-1), J3)
    else
      match g_X8_isGlass n p a1 J3 with
      | none => none
      | some (r9, J8) =>
        if r9 = 0 then
          some ((-1), J8)
        else
          match g_X8_within n a2 0 1 J8 with
          | none => none
          | some (r14, J13) =>
            if r14 = 0 then
              some ((-1), J13)
            else
              match g_X5_copyFrom n 33 31 J13 with
              | none => none
              | some J18 =>
                bnd (((2 * a1) + a2)) fun x19 =>
                g_X8_falls_54 p n a0 x19 0 0 J18
set_option maxRecDepth 20000 in
theorem t_X8_falls {p : Nat} (hp : p = 5 ∨ p = 18) {n : Nat} {a0 : Int32} {a1 : Int32} {a2 : Int32} {I : IH} {w : Int32 × IH} (hg : g_X8_falls n p a0 a1 a2 I = some w) : TT none mt_X8_falls 0 (lv_args 0 [.ref 0, .int a0, .int a1, .int a2]) [] (83, I, R0 p) (some (.int w.1)) (83, w.2, R0 p) := by
  unfold g_X8_falls at hg
  refine TT_go 3 (pc' := 5) (lv' := [(0, .ref 0), (1, .int a0), (2, .int a1), (3, .int a2)]) (st' := [.int 20000, .int 0, .int a0]) (h2 := (83, I, R0 p)) (by rcases hp with rfl | rfl <;> rfl) ?_
  cases hq1 : g_X8_within n a0 0 20000 I with
  | none => rw [hq1] at hg; cases hg
  | some w2 =>
    obtain ⟨r4, J3⟩ := w2
    rw [hq1] at hg
    dsimp only at hg
    refine TT_call (me' := mt_X8_within) (as := [.int a0, .int 0, .int 20000]) (rest := []) (r1 := some (.int r4)) (h1 := (83, J3, R0 p)) rfl rfl (by rcases hp with rfl | rfl <;> rfl) (t_X8_within hq1) ?_
    refine TT_go 0 (pc' := 8) (lv' := [(0, .ref 0), (1, .int a0), (2, .int a1), (3, .int a2)]) (st' := [.int r4]) (h2 := (83, J3, R0 p)) (by rcases hp with rfl | rfl <;> rfl) ?_
    by_cases hc5 : r4 = 0
    · rw [if_pos hc5] at hg
      refine TT_zeq_t (t := 28) rfl rfl hc5 ?_
      refine TT_go 1 (pc' := 29) (lv' := [(0, .ref 0), (1, .int a0), (2, .int a1), (3, .int a2)]) (st' := [.int (-1)]) (h2 := (83, J3, R0 p)) (by rcases hp with rfl | rfl <;> rfl) ?_
      have hg := Option.some.inj hg
      subst hg
      exact TT_ret rfl rfl
    · rw [if_neg hc5] at hg
      refine TT_zeq_f (t := 28) rfl rfl hc5 ?_
      refine TT_go 2 (pc' := 13) (lv' := [(0, .ref 0), (1, .int a0), (2, .int a1), (3, .int a2)]) (st' := [.int a1, .ref 0]) (h2 := (83, J3, R0 p)) (by rcases hp with rfl | rfl <;> rfl) ?_
      cases hq6 : g_X8_isGlass n p a1 J3 with
      | none => rw [hq6] at hg; cases hg
      | some w7 =>
        obtain ⟨r9, J8⟩ := w7
        rw [hq6] at hg
        dsimp only at hg
        refine TT_call (me' := mt_X8_isGlass) (as := [.ref 0, .int a1]) (rest := []) (r1 := some (.int r9)) (h1 := (83, J8, R0 p)) rfl rfl (by rcases hp with rfl | rfl <;> rfl) (t_X8_isGlass hp hq6) ?_
        refine TT_go 0 (pc' := 16) (lv' := [(0, .ref 0), (1, .int a0), (2, .int a1), (3, .int a2)]) (st' := [.int r9]) (h2 := (83, J8, R0 p)) (by rcases hp with rfl | rfl <;> rfl) ?_
        by_cases hc10 : r9 = 0
        · rw [if_pos hc10] at hg
          refine TT_zeq_t (t := 28) rfl rfl hc10 ?_
          refine TT_go 1 (pc' := 29) (lv' := [(0, .ref 0), (1, .int a0), (2, .int a1), (3, .int a2)]) (st' := [.int (-1)]) (h2 := (83, J8, R0 p)) (by rcases hp with rfl | rfl <;> rfl) ?_
          have hg := Option.some.inj hg
          subst hg
          exact TT_ret rfl rfl
        · rw [if_neg hc10] at hg
          refine TT_zeq_f (t := 28) rfl rfl hc10 ?_
          refine TT_go 3 (pc' := 22) (lv' := [(0, .ref 0), (1, .int a0), (2, .int a1), (3, .int a2)]) (st' := [.int 1, .int 0, .int a2]) (h2 := (83, J8, R0 p)) (by rcases hp with rfl | rfl <;> rfl) ?_
          cases hq11 : g_X8_within n a2 0 1 J8 with
          | none => rw [hq11] at hg; cases hg
          | some w12 =>
            obtain ⟨r14, J13⟩ := w12
            rw [hq11] at hg
            dsimp only at hg
            refine TT_call (me' := mt_X8_within) (as := [.int a2, .int 0, .int 1]) (rest := []) (r1 := some (.int r14)) (h1 := (83, J13, R0 p)) rfl rfl (by rcases hp with rfl | rfl <;> rfl) (t_X8_within hq11) ?_
            refine TT_go 0 (pc' := 25) (lv' := [(0, .ref 0), (1, .int a0), (2, .int a1), (3, .int a2)]) (st' := [.int r14]) (h2 := (83, J13, R0 p)) (by rcases hp with rfl | rfl <;> rfl) ?_
            by_cases hc15 : r14 = 0
            · rw [if_pos hc15] at hg
              refine TT_zne_f (t := 30) rfl rfl hc15 ?_
              refine TT_go 1 (pc' := 29) (lv' := [(0, .ref 0), (1, .int a0), (2, .int a1), (3, .int a2)]) (st' := [.int (-1)]) (h2 := (83, J13, R0 p)) (by rcases hp with rfl | rfl <;> rfl) ?_
              have hg := Option.some.inj hg
              subst hg
              exact TT_ret rfl rfl
            · rw [if_neg hc15] at hg
              refine TT_zne_t (t := 30) rfl rfl hc15 ?_
              refine TT_go 4 (pc' := 38) (lv' := [(0, .ref 0), (1, .int a0), (2, .int a1), (3, .int a2)]) (st' := [.ref 31, .ref 33]) (h2 := (83, J13, R0 p)) (by rcases hp with rfl | rfl <;> rfl) ?_
              cases hq16 : g_X5_copyFrom n 33 31 J13 with
              | none => rw [hq16] at hg; cases hg
              | some w17 =>
                obtain ⟨J18, hJ18⟩ : ∃ J, J = w17 := ⟨_, rfl⟩
                rw [← hJ18] at hq16
                rw [hq16] at hg
                dsimp only at hg
                refine TT_call (me' := mt_X5_copyFrom) (as := [.ref 33, .ref 31]) (rest := []) (r1 := none) (h1 := (83, J18, R0 p)) rfl rfl (by rcases hp with rfl | rfl <;> rfl) (t_X5_copyFrom (Or.inr (Or.inl rfl)) (Or.inl rfl) hq16) ?_
                obtain ⟨x19, hx19⟩ : ∃ x : Int32, x = (((2 * a1) + a2)) := ⟨_, rfl⟩
                replace hg := bnd_use hx19 hg
                refine TT_go 6 (pc' := 48) (lv' := [(4, .int x19), (0, .ref 0), (1, .int a0), (2, .int a1), (3, .int a2)]) (st' := []) (h2 := (83, J18, R0 p)) (by subst hx19; rcases hp with rfl | rfl <;> rfl) ?_
                refine TT_go 4 (pc' := 54) (lv' := [(6, .int 0), (5, .int 0), (4, .int x19), (0, .ref 0), (1, .int a0), (2, .int a1), (3, .int a2)]) (st' := []) (h2 := (83, J18, R0 p)) (by rcases hp with rfl | rfl <;> rfl) ?_
                refine TT_sub (lv2 := [(0, .ref 0), (1, .int a0), (4, .int x19), (5, .int 0), (6, .int 0)]) rfl rfl ⟨rfl, rfl, rfl, rfl, rfl, trivial⟩ ?_
                exact t_X8_falls_54 hp n a0 x19 0 0 _ _ hg
def g_X8_empty_63 (n : Nat) (p : Nat) (k28 : Int32 → Int32 → Int32 → IH → Option (Int32 × IH)) (v1 : Int32) (v2 : Int32) (v3 : Int32) (I : IH) : Option (Int32 × IH) :=
  match g_X5_letSandFall n 33 p I with
  | none => none
  | some J20 =>
    bnd (v3 + 1) fun x21 =>
    k28 v1 v2 x21 J20
set_option maxRecDepth 20000 in
theorem t_X8_empty_63 {p : Nat} (hp : p = 5 ∨ p = 18) {n : Nat} {k28 : Int32 → Int32 → Int32 → IH → Option (Int32 × IH)} (hk28 : ∀ (v1 : Int32) (v2 : Int32) (v3 : Int32) (I : IH) (w : Int32 × IH), k28 v1 v2 v3 I = some w → TT none mt_X8_empty 28 [(0, .ref 0), (1, .int v1), (2, .int v2), (3, .int v3)] [] (83, I, R0 p) (some (.int w.1)) (83, w.2, R0 p)) {v1 : Int32} {v2 : Int32} {v3 : Int32} {I : IH} {w : Int32 × IH} (hg : g_X8_empty_63 n p k28 v1 v2 v3 I = some w) : TT none mt_X8_empty 63 [(0, .ref 0), (1, .int v1), (2, .int v2), (3, .int v3)] [] (83, I, R0 p) (some (.int w.1)) (83, w.2, R0 p) := by
  unfold g_X8_empty_63 at hg
  refine TT_go 4 (pc' := 71) (lv' := [(0, .ref 0), (1, .int v1), (2, .int v2), (3, .int v3)]) (st' := [.ref p, .ref 33]) (h2 := (83, I, R0 p)) (by rcases hp with rfl | rfl <;> rfl) ?_
  cases hq18 : g_X5_letSandFall n 33 p I with
  | none => rw [hq18] at hg; cases hg
  | some w19 =>
    obtain ⟨J20, hJ20⟩ : ∃ J, J = w19 := ⟨_, rfl⟩
    rw [← hJ20] at hq18
    rw [hq18] at hg
    dsimp only at hg
    refine TT_call (me' := mt_X5_letSandFall) (as := [.ref 33, .ref p]) (rest := []) (r1 := none) (h1 := (83, J20, R0 p)) rfl rfl (by rcases hp with rfl | rfl <;> rfl) (t_X5_letSandFall (Or.inr rfl) hp hq18) ?_
    obtain ⟨x21, hx21⟩ : ∃ x : Int32, x = (v3 + 1) := ⟨_, rfl⟩
    replace hg := bnd_use hx21 hg
    refine TT_go 1 (pc' := 77) (lv' := [(3, .int x21), (0, .ref 0), (1, .int v1), (2, .int v2)]) (st' := []) (h2 := (83, J20, R0 p)) (by subst hx21; rcases hp with rfl | rfl <;> rfl) ?_
    refine TT_go 1 (pc' := 28) (lv' := [(3, .int x21), (0, .ref 0), (1, .int v1), (2, .int v2)]) (st' := []) (h2 := (83, J20, R0 p)) (by rcases hp with rfl | rfl <;> rfl) ?_
    refine TT_sub (lv2 := [(0, .ref 0), (1, .int v1), (2, .int v2), (3, .int x21)]) rfl rfl ⟨rfl, rfl, rfl, rfl, trivial⟩ ?_
    exact hk28 v1 v2 x21 _ _ hg
def g_X8_empty_28 (p : Nat) : Nat → Int32 → Int32 → Int32 → IH → Option (Int32 × IH)
  | 0, _, _, _, _ => none
  | n + 1, v1, v2, v3, I =>
    if v1 ≤ v3 then
      some (v2, I)
    else
      match g_X5_letClerksTurn n 33 p (-1) 0 I with
      | none => none
      | some J12 =>
        match g_X5_standing n 33 p J12 with
        | none => none
        | some (r16, J15) =>
          if r16 ≤ 0 then
            g_X8_empty_63 n p (g_X8_empty_28 p n) v1 v2 v3 J15
          else
            bnd (v2 + 1) fun x22 =>
            g_X8_empty_63 n p (g_X8_empty_28 p n) v1 x22 v3 J15
set_option maxRecDepth 20000 in
theorem t_X8_empty_28 {p : Nat} (hp : p = 5 ∨ p = 18) : ∀ (n : Nat) (v1 : Int32) (v2 : Int32) (v3 : Int32) (I : IH) (w : Int32 × IH), g_X8_empty_28 p n v1 v2 v3 I = some w → TT none mt_X8_empty 28 [(0, .ref 0), (1, .int v1), (2, .int v2), (3, .int v3)] [] (83, I, R0 p) (some (.int w.1)) (83, w.2, R0 p) := by
  intro n
  induction n with
  | zero => intro v1 v2 v3 I w hg; cases hg
  | succ n ih =>
    intro v1 v2 v3 I w hg
    unfold g_X8_empty_28 at hg
    refine TT_go 2 (pc' := 30) (lv' := [(0, .ref 0), (1, .int v1), (2, .int v2), (3, .int v3)]) (st' := [.int v1, .int v3]) (h2 := (83, I, R0 p)) (by rcases hp with rfl | rfl <;> rfl) ?_
    by_cases hc9 : v1 ≤ v3
    · rw [if_pos hc9] at hg
      refine TT_ige_t (t := 80) rfl rfl hc9 ?_
      refine TT_go 1 (pc' := 81) (lv' := [(0, .ref 0), (1, .int v1), (2, .int v2), (3, .int v3)]) (st' := [.int v2]) (h2 := (83, I, R0 p)) (by rcases hp with rfl | rfl <;> rfl) ?_
      have hg := Option.some.inj hg
      subst hg
      exact TT_ret rfl rfl
    · rw [if_neg hc9] at hg
      refine TT_ige_f (t := 80) rfl rfl hc9 ?_
      refine TT_go 6 (pc' := 43) (lv' := [(0, .ref 0), (1, .int v1), (2, .int v2), (3, .int v3)]) (st' := [.int 0, .int (-1), .ref p, .ref 33]) (h2 := (83, I, R0 p)) (by rcases hp with rfl | rfl <;> rfl) ?_
      cases hq10 : g_X5_letClerksTurn n 33 p (-1) 0 I with
      | none => rw [hq10] at hg; cases hg
      | some w11 =>
        obtain ⟨J12, hJ12⟩ : ∃ J, J = w11 := ⟨_, rfl⟩
        rw [← hJ12] at hq10
        rw [hq10] at hg
        dsimp only at hg
        refine TT_call (me' := mt_X5_letClerksTurn) (as := [.ref 33, .ref p, .int (-1), .int 0]) (rest := []) (r1 := none) (h1 := (83, J12, R0 p)) rfl rfl (by rcases hp with rfl | rfl <;> rfl) (t_X5_letClerksTurn (Or.inr rfl) hp hq10) ?_
        refine TT_go 4 (pc' := 54) (lv' := [(0, .ref 0), (1, .int v1), (2, .int v2), (3, .int v3)]) (st' := [.ref p, .ref 33]) (h2 := (83, J12, R0 p)) (by rcases hp with rfl | rfl <;> rfl) ?_
        cases hq13 : g_X5_standing n 33 p J12 with
        | none => rw [hq13] at hg; cases hg
        | some w14 =>
          obtain ⟨r16, J15⟩ := w14
          rw [hq13] at hg
          dsimp only at hg
          refine TT_call (me' := mt_X5_standing) (as := [.ref 33, .ref p]) (rest := []) (r1 := some (.int r16)) (h1 := (83, J15, R0 p)) rfl rfl (by rcases hp with rfl | rfl <;> rfl) (t_X5_standing (Or.inr rfl) hp hq13) ?_
          refine TT_go 0 (pc' := 57) (lv' := [(0, .ref 0), (1, .int v1), (2, .int v2), (3, .int v3)]) (st' := [.int r16]) (h2 := (83, J15, R0 p)) (by rcases hp with rfl | rfl <;> rfl) ?_
          by_cases hc17 : r16 ≤ 0
          · rw [if_pos hc17] at hg
            refine TT_zle_t (t := 63) rfl rfl hc17 ?_
            refine TT_go 0 (pc' := 63) (lv' := [(0, .ref 0), (1, .int v1), (2, .int v2), (3, .int v3)]) (st' := []) (h2 := (83, J15, R0 p)) (by rcases hp with rfl | rfl <;> rfl) ?_
            refine TT_sub (lv2 := [(0, .ref 0), (1, .int v1), (2, .int v2), (3, .int v3)]) rfl rfl ⟨rfl, rfl, rfl, rfl, trivial⟩ ?_
            exact t_X8_empty_63 hp ih hg
          · rw [if_neg hc17] at hg
            refine TT_zle_f (t := 63) rfl rfl hc17 ?_
            obtain ⟨x22, hx22⟩ : ∃ x : Int32, x = (v2 + 1) := ⟨_, rfl⟩
            replace hg := bnd_use hx22 hg
            refine TT_go 1 (pc' := 63) (lv' := [(2, .int x22), (0, .ref 0), (1, .int v1), (3, .int v3)]) (st' := []) (h2 := (83, J15, R0 p)) (by subst hx22; rcases hp with rfl | rfl <;> rfl) ?_
            refine TT_sub (lv2 := [(0, .ref 0), (1, .int v1), (2, .int x22), (3, .int v3)]) rfl rfl ⟨rfl, rfl, rfl, rfl, trivial⟩ ?_
            exact t_X8_empty_63 hp ih hg
def g_X8_empty (n : Nat) (p : Nat) (a0 : Int32) (I : IH) : Option (Int32 × IH) :=
  match g_X8_within n a0 0 20000 I with
  | none => none
  | some (r4, J3) =>
    if r4 = 0 then
      some ((-1), J3)
    else
      match g_X5_copyFrom n 33 31 J3 with
      | none => none
      | some J8 =>
        g_X8_empty_28 p n a0 0 0 J8
set_option maxRecDepth 20000 in
theorem t_X8_empty {p : Nat} (hp : p = 5 ∨ p = 18) {n : Nat} {a0 : Int32} {I : IH} {w : Int32 × IH} (hg : g_X8_empty n p a0 I = some w) : TT none mt_X8_empty 0 (lv_args 0 [.ref 0, .int a0]) [] (83, I, R0 p) (some (.int w.1)) (83, w.2, R0 p) := by
  unfold g_X8_empty at hg
  refine TT_go 3 (pc' := 5) (lv' := [(0, .ref 0), (1, .int a0)]) (st' := [.int 20000, .int 0, .int a0]) (h2 := (83, I, R0 p)) (by rcases hp with rfl | rfl <;> rfl) ?_
  cases hq1 : g_X8_within n a0 0 20000 I with
  | none => rw [hq1] at hg; cases hg
  | some w2 =>
    obtain ⟨r4, J3⟩ := w2
    rw [hq1] at hg
    dsimp only at hg
    refine TT_call (me' := mt_X8_within) (as := [.int a0, .int 0, .int 20000]) (rest := []) (r1 := some (.int r4)) (h1 := (83, J3, R0 p)) rfl rfl (by rcases hp with rfl | rfl <;> rfl) (t_X8_within hq1) ?_
    refine TT_go 0 (pc' := 8) (lv' := [(0, .ref 0), (1, .int a0)]) (st' := [.int r4]) (h2 := (83, J3, R0 p)) (by rcases hp with rfl | rfl <;> rfl) ?_
    by_cases hc5 : r4 = 0
    · rw [if_pos hc5] at hg
      refine TT_zne_f (t := 13) rfl rfl hc5 ?_
      refine TT_go 1 (pc' := 12) (lv' := [(0, .ref 0), (1, .int a0)]) (st' := [.int (-1)]) (h2 := (83, J3, R0 p)) (by rcases hp with rfl | rfl <;> rfl) ?_
      have hg := Option.some.inj hg
      subst hg
      exact TT_ret rfl rfl
    · rw [if_neg hc5] at hg
      refine TT_zne_t (t := 13) rfl rfl hc5 ?_
      refine TT_go 4 (pc' := 21) (lv' := [(0, .ref 0), (1, .int a0)]) (st' := [.ref 31, .ref 33]) (h2 := (83, J3, R0 p)) (by rcases hp with rfl | rfl <;> rfl) ?_
      cases hq6 : g_X5_copyFrom n 33 31 J3 with
      | none => rw [hq6] at hg; cases hg
      | some w7 =>
        obtain ⟨J8, hJ8⟩ : ∃ J, J = w7 := ⟨_, rfl⟩
        rw [← hJ8] at hq6
        rw [hq6] at hg
        dsimp only at hg
        refine TT_call (me' := mt_X5_copyFrom) (as := [.ref 33, .ref 31]) (rest := []) (r1 := none) (h1 := (83, J8, R0 p)) rfl rfl (by rcases hp with rfl | rfl <;> rfl) (t_X5_copyFrom (Or.inr (Or.inl rfl)) (Or.inl rfl) hq6) ?_
        refine TT_go 4 (pc' := 28) (lv' := [(3, .int 0), (2, .int 0), (0, .ref 0), (1, .int a0)]) (st' := []) (h2 := (83, J8, R0 p)) (by rcases hp with rfl | rfl <;> rfl) ?_
        refine TT_sub (lv2 := [(0, .ref 0), (1, .int a0), (2, .int 0), (3, .int 0)]) rfl rfl ⟨rfl, rfl, rfl, rfl, trivial⟩ ?_
        exact t_X8_empty_28 hp n a0 0 0 _ _ hg
def g_X8_isDelay (n : Nat) (p : Nat) (a0 : Int32) (a1 : Int32) (a2 : Int32) (I : IH) : Option (Int32 × IH) :=
  match g_X8_within n a0 0 ((I p 11) - 1) I with
  | none => none
  | some (r4, J3) =>
    if r4 = 0 then
      some (0, J3)
    else
      match g_X8_within n a1 0 99 J3 with
      | none => none
      | some (r9, J8) =>
        if r9 = 0 then
          some (0, J8)
        else
          match g_X8_within n a2 0 20000 J8 with
          | none => none
          | some (r14, J13) =>
            if r14 = 0 then
              some (0, J13)
            else
              some (1, J13)
set_option maxRecDepth 20000 in
theorem t_X8_isDelay {p : Nat} (hp : p = 5 ∨ p = 18) {n : Nat} {a0 : Int32} {a1 : Int32} {a2 : Int32} {I : IH} {w : Int32 × IH} (hg : g_X8_isDelay n p a0 a1 a2 I = some w) : TT none mt_X8_isDelay 0 (lv_args 0 [.ref 0, .int a0, .int a1, .int a2]) [] (83, I, R0 p) (some (.int w.1)) (83, w.2, R0 p) := by
  unfold g_X8_isDelay at hg
  refine TT_go 7 (pc' := 11) (lv' := [(0, .ref 0), (1, .int a0), (2, .int a1), (3, .int a2)]) (st' := [.int ((I p 11) - 1), .int 0, .int a0]) (h2 := (83, I, R0 p)) (by rcases hp with rfl | rfl <;> rfl) ?_
  cases hq1 : g_X8_within n a0 0 ((I p 11) - 1) I with
  | none => rw [hq1] at hg; cases hg
  | some w2 =>
    obtain ⟨r4, J3⟩ := w2
    rw [hq1] at hg
    dsimp only at hg
    refine TT_call (me' := mt_X8_within) (as := [.int a0, .int 0, .int ((I p 11) - 1)]) (rest := []) (r1 := some (.int r4)) (h1 := (83, J3, R0 p)) rfl rfl (by rcases hp with rfl | rfl <;> rfl) (t_X8_within hq1) ?_
    refine TT_go 0 (pc' := 14) (lv' := [(0, .ref 0), (1, .int a0), (2, .int a1), (3, .int a2)]) (st' := [.int r4]) (h2 := (83, J3, R0 p)) (by rcases hp with rfl | rfl <;> rfl) ?_
    by_cases hc5 : r4 = 0
    · rw [if_pos hc5] at hg
      refine TT_zeq_t (t := 42) rfl rfl hc5 ?_
      refine TT_go 1 (pc' := 43) (lv' := [(0, .ref 0), (1, .int a0), (2, .int a1), (3, .int a2)]) (st' := [.int 0]) (h2 := (83, J3, R0 p)) (by rcases hp with rfl | rfl <;> rfl) ?_
      have hg := Option.some.inj hg
      subst hg
      exact TT_ret rfl rfl
    · rw [if_neg hc5] at hg
      refine TT_zeq_f (t := 42) rfl rfl hc5 ?_
      refine TT_go 3 (pc' := 21) (lv' := [(0, .ref 0), (1, .int a0), (2, .int a1), (3, .int a2)]) (st' := [.int 99, .int 0, .int a1]) (h2 := (83, J3, R0 p)) (by rcases hp with rfl | rfl <;> rfl) ?_
      cases hq6 : g_X8_within n a1 0 99 J3 with
      | none => rw [hq6] at hg; cases hg
      | some w7 =>
        obtain ⟨r9, J8⟩ := w7
        rw [hq6] at hg
        dsimp only at hg
        refine TT_call (me' := mt_X8_within) (as := [.int a1, .int 0, .int 99]) (rest := []) (r1 := some (.int r9)) (h1 := (83, J8, R0 p)) rfl rfl (by rcases hp with rfl | rfl <;> rfl) (t_X8_within hq6) ?_
        refine TT_go 0 (pc' := 24) (lv' := [(0, .ref 0), (1, .int a0), (2, .int a1), (3, .int a2)]) (st' := [.int r9]) (h2 := (83, J8, R0 p)) (by rcases hp with rfl | rfl <;> rfl) ?_
        by_cases hc10 : r9 = 0
        · rw [if_pos hc10] at hg
          refine TT_zeq_t (t := 42) rfl rfl hc10 ?_
          refine TT_go 1 (pc' := 43) (lv' := [(0, .ref 0), (1, .int a0), (2, .int a1), (3, .int a2)]) (st' := [.int 0]) (h2 := (83, J8, R0 p)) (by rcases hp with rfl | rfl <;> rfl) ?_
          have hg := Option.some.inj hg
          subst hg
          exact TT_ret rfl rfl
        · rw [if_neg hc10] at hg
          refine TT_zeq_f (t := 42) rfl rfl hc10 ?_
          refine TT_go 3 (pc' := 32) (lv' := [(0, .ref 0), (1, .int a0), (2, .int a1), (3, .int a2)]) (st' := [.int 20000, .int 0, .int a2]) (h2 := (83, J8, R0 p)) (by rcases hp with rfl | rfl <;> rfl) ?_
          cases hq11 : g_X8_within n a2 0 20000 J8 with
          | none => rw [hq11] at hg; cases hg
          | some w12 =>
            obtain ⟨r14, J13⟩ := w12
            rw [hq11] at hg
            dsimp only at hg
            refine TT_call (me' := mt_X8_within) (as := [.int a2, .int 0, .int 20000]) (rest := []) (r1 := some (.int r14)) (h1 := (83, J13, R0 p)) rfl rfl (by rcases hp with rfl | rfl <;> rfl) (t_X8_within hq11) ?_
            refine TT_go 0 (pc' := 35) (lv' := [(0, .ref 0), (1, .int a0), (2, .int a1), (3, .int a2)]) (st' := [.int r14]) (h2 := (83, J13, R0 p)) (by rcases hp with rfl | rfl <;> rfl) ?_
            by_cases hc15 : r14 = 0
            · rw [if_pos hc15] at hg
              refine TT_zeq_t (t := 42) rfl rfl hc15 ?_
              refine TT_go 1 (pc' := 43) (lv' := [(0, .ref 0), (1, .int a0), (2, .int a1), (3, .int a2)]) (st' := [.int 0]) (h2 := (83, J13, R0 p)) (by rcases hp with rfl | rfl <;> rfl) ?_
              have hg := Option.some.inj hg
              subst hg
              exact TT_ret rfl rfl
            · rw [if_neg hc15] at hg
              refine TT_zeq_f (t := 42) rfl rfl hc15 ?_
              refine TT_go 2 (pc' := 43) (lv' := [(0, .ref 0), (1, .int a0), (2, .int a1), (3, .int a2)]) (st' := [.int 1]) (h2 := (83, J13, R0 p)) (by rcases hp with rfl | rfl <;> rfl) ?_
              have hg := Option.some.inj hg
              subst hg
              exact TT_ret rfl rfl
def g_X8_late (n : Nat) (p : Nat) (a0 : Int32) (a1 : Int32) (a2 : Int32) (a3 : Int32) (I : IH) : Option (Int32 × IH) :=
  match g_X8_isDelay n p a0 a1 a2 I with
  | none => none
  | some (r4, J3) =>
    if r4 = 0 then
      some ((-1), J3)
    else
      match g_X8_isHand n a3 J3 with
      | none => none
      | some (r9, J8) =>
        if r9 = 0 then
          some ((-1), J8)
        else
          match g_X8_lookAhead n p a2 (-1) 0 J8 with
          | none => none
          | some J13 =>
            match g_X5_grainsOf n 33 p a3 J13 with
            | none => none
            | some (r17, J16) =>
              match g_X8_lookAhead n p a2 a0 a1 J16 with
              | none => none
              | some J20 =>
                match g_X5_grainsOf n 33 p a3 J20 with
                | none => none
                | some (r24, J23) =>
                  some (((r24 - r17) + 100000), J23)
set_option maxRecDepth 20000 in
theorem t_X8_late {p : Nat} (hp : p = 5 ∨ p = 18) {n : Nat} {a0 : Int32} {a1 : Int32} {a2 : Int32} {a3 : Int32} {I : IH} {w : Int32 × IH} (hg : g_X8_late n p a0 a1 a2 a3 I = some w) : TT none mt_X8_late 0 (lv_args 0 [.ref 0, .int a0, .int a1, .int a2, .int a3]) [] (83, I, R0 p) (some (.int w.1)) (83, w.2, R0 p) := by
  unfold g_X8_late at hg
  refine TT_go 4 (pc' := 4) (lv' := [(0, .ref 0), (1, .int a0), (2, .int a1), (3, .int a2), (4, .int a3)]) (st' := [.int a2, .int a1, .int a0, .ref 0]) (h2 := (83, I, R0 p)) (by rcases hp with rfl | rfl <;> rfl) ?_
  cases hq1 : g_X8_isDelay n p a0 a1 a2 I with
  | none => rw [hq1] at hg; cases hg
  | some w2 =>
    obtain ⟨r4, J3⟩ := w2
    rw [hq1] at hg
    dsimp only at hg
    refine TT_call (me' := mt_X8_isDelay) (as := [.ref 0, .int a0, .int a1, .int a2]) (rest := []) (r1 := some (.int r4)) (h1 := (83, J3, R0 p)) rfl rfl (by rcases hp with rfl | rfl <;> rfl) (t_X8_isDelay hp hq1) ?_
    refine TT_go 0 (pc' := 7) (lv' := [(0, .ref 0), (1, .int a0), (2, .int a1), (3, .int a2), (4, .int a3)]) (st' := [.int r4]) (h2 := (83, J3, R0 p)) (by rcases hp with rfl | rfl <;> rfl) ?_
    by_cases hc5 : r4 = 0
    · rw [if_pos hc5] at hg
      refine TT_zeq_t (t := 18) rfl rfl hc5 ?_
      refine TT_go 1 (pc' := 19) (lv' := [(0, .ref 0), (1, .int a0), (2, .int a1), (3, .int a2), (4, .int a3)]) (st' := [.int (-1)]) (h2 := (83, J3, R0 p)) (by rcases hp with rfl | rfl <;> rfl) ?_
      have hg := Option.some.inj hg
      subst hg
      exact TT_ret rfl rfl
    · rw [if_neg hc5] at hg
      refine TT_zeq_f (t := 18) rfl rfl hc5 ?_
      refine TT_go 1 (pc' := 12) (lv' := [(0, .ref 0), (1, .int a0), (2, .int a1), (3, .int a2), (4, .int a3)]) (st' := [.int a3]) (h2 := (83, J3, R0 p)) (by rcases hp with rfl | rfl <;> rfl) ?_
      cases hq6 : g_X8_isHand n a3 J3 with
      | none => rw [hq6] at hg; cases hg
      | some w7 =>
        obtain ⟨r9, J8⟩ := w7
        rw [hq6] at hg
        dsimp only at hg
        refine TT_call (me' := mt_X8_isHand) (as := [.int a3]) (rest := []) (r1 := some (.int r9)) (h1 := (83, J8, R0 p)) rfl rfl (by rcases hp with rfl | rfl <;> rfl) (t_X8_isHand hq6) ?_
        refine TT_go 0 (pc' := 15) (lv' := [(0, .ref 0), (1, .int a0), (2, .int a1), (3, .int a2), (4, .int a3)]) (st' := [.int r9]) (h2 := (83, J8, R0 p)) (by rcases hp with rfl | rfl <;> rfl) ?_
        by_cases hc10 : r9 = 0
        · rw [if_pos hc10] at hg
          refine TT_zne_f (t := 20) rfl rfl hc10 ?_
          refine TT_go 1 (pc' := 19) (lv' := [(0, .ref 0), (1, .int a0), (2, .int a1), (3, .int a2), (4, .int a3)]) (st' := [.int (-1)]) (h2 := (83, J8, R0 p)) (by rcases hp with rfl | rfl <;> rfl) ?_
          have hg := Option.some.inj hg
          subst hg
          exact TT_ret rfl rfl
        · rw [if_neg hc10] at hg
          refine TT_zne_t (t := 20) rfl rfl hc10 ?_
          refine TT_go 4 (pc' := 24) (lv' := [(0, .ref 0), (1, .int a0), (2, .int a1), (3, .int a2), (4, .int a3)]) (st' := [.int 0, .int (-1), .int a2, .ref 0]) (h2 := (83, J8, R0 p)) (by rcases hp with rfl | rfl <;> rfl) ?_
          cases hq11 : g_X8_lookAhead n p a2 (-1) 0 J8 with
          | none => rw [hq11] at hg; cases hg
          | some w12 =>
            obtain ⟨J13, hJ13⟩ : ∃ J, J = w12 := ⟨_, rfl⟩
            rw [← hJ13] at hq11
            rw [hq11] at hg
            dsimp only at hg
            refine TT_call (me' := mt_X8_lookAhead) (as := [.ref 0, .int a2, .int (-1), .int 0]) (rest := []) (r1 := some (.ref 33)) (h1 := (83, J13, R0 p)) rfl rfl (by rcases hp with rfl | rfl <;> rfl) (t_X8_lookAhead hp hq11) ?_
            refine TT_go 3 (pc' := 33) (lv' := [(0, .ref 0), (1, .int a0), (2, .int a1), (3, .int a2), (4, .int a3)]) (st' := [.int a3, .ref p, .ref 33]) (h2 := (83, J13, R0 p)) (by rcases hp with rfl | rfl <;> rfl) ?_
            cases hq14 : g_X5_grainsOf n 33 p a3 J13 with
            | none => rw [hq14] at hg; cases hg
            | some w15 =>
              obtain ⟨r17, J16⟩ := w15
              rw [hq14] at hg
              dsimp only at hg
              refine TT_call (me' := mt_X5_grainsOf) (as := [.ref 33, .ref p, .int a3]) (rest := []) (r1 := some (.int r17)) (h1 := (83, J16, R0 p)) rfl rfl (by rcases hp with rfl | rfl <;> rfl) (t_X5_grainsOf (Or.inr rfl) hp hq14) ?_
              refine TT_go 5 (pc' := 42) (lv' := [(5, .int r17), (0, .ref 0), (1, .int a0), (2, .int a1), (3, .int a2), (4, .int a3)]) (st' := [.int a1, .int a0, .int a2, .ref 0]) (h2 := (83, J16, R0 p)) (by rcases hp with rfl | rfl <;> rfl) ?_
              cases hq18 : g_X8_lookAhead n p a2 a0 a1 J16 with
              | none => rw [hq18] at hg; cases hg
              | some w19 =>
                obtain ⟨J20, hJ20⟩ : ∃ J, J = w19 := ⟨_, rfl⟩
                rw [← hJ20] at hq18
                rw [hq18] at hg
                dsimp only at hg
                refine TT_call (me' := mt_X8_lookAhead) (as := [.ref 0, .int a2, .int a0, .int a1]) (rest := []) (r1 := some (.ref 33)) (h1 := (83, J20, R0 p)) rfl rfl (by rcases hp with rfl | rfl <;> rfl) (t_X8_lookAhead hp hq18) ?_
                refine TT_go 3 (pc' := 51) (lv' := [(5, .int r17), (0, .ref 0), (1, .int a0), (2, .int a1), (3, .int a2), (4, .int a3)]) (st' := [.int a3, .ref p, .ref 33]) (h2 := (83, J20, R0 p)) (by rcases hp with rfl | rfl <;> rfl) ?_
                cases hq21 : g_X5_grainsOf n 33 p a3 J20 with
                | none => rw [hq21] at hg; cases hg
                | some w22 =>
                  obtain ⟨r24, J23⟩ := w22
                  rw [hq21] at hg
                  dsimp only at hg
                  refine TT_call (me' := mt_X5_grainsOf) (as := [.ref 33, .ref p, .int a3]) (rest := []) (r1 := some (.int r24)) (h1 := (83, J23, R0 p)) rfl rfl (by rcases hp with rfl | rfl <;> rfl) (t_X5_grainsOf (Or.inr rfl) hp hq21) ?_
                  refine TT_go 4 (pc' := 60) (lv' := [(5, .int r17), (0, .ref 0), (1, .int a0), (2, .int a1), (3, .int a2), (4, .int a3)]) (st' := [.int ((r24 - r17) + 100000)]) (h2 := (83, J23, R0 p)) (by rcases hp with rfl | rfl <;> rfl) ?_
                  have hg := Option.some.inj hg
                  subst hg
                  exact TT_ret rfl rfl
def g_X8_countHoldings_4 (p : Nat) (s : Nat) : Nat → Int32 → Int32 → IH → Option (Int32 × IH)
  | 0, _, _, _ => none
  | n + 1, v2, v3, I =>
    if 6 ≤ v3 then
      some (v2, I)
    else
      match g_X5_grainsOf n s p v3 I with
      | none => none
      | some (r5, J4) =>
        if inB v3 6 = true then
          bnd (up2 J4 54 (Int32.toNatClampNeg v3) r5) fun J7 =>
          if inB v3 6 = true then
            bnd (J7 54 (Int32.toNatClampNeg v3)) fun x9 =>
            bnd ((v2 + x9)) fun x10 =>
            bnd (v3 + 1) fun x11 =>
            g_X8_countHoldings_4 p s n x10 x11 J7
          else none
        else none
set_option maxRecDepth 20000 in
theorem t_X8_countHoldings_4 {p : Nat} (hp : p = 5 ∨ p = 18) {s : Nat} (hs : s = 31 ∨ s = 33) : ∀ (n : Nat) (v2 : Int32) (v3 : Int32) (I : IH) (w : Int32 × IH), g_X8_countHoldings_4 p s n v2 v3 I = some w → TT none mt_X8_countHoldings 4 [(0, .ref 0), (1, .ref s), (2, .int v2), (3, .int v3)] [] (83, I, R0 p) (some (.int w.1)) (83, w.2, R0 p) := by
  intro n
  induction n with
  | zero => intro v2 v3 I w hg; cases hg
  | succ n ih =>
    intro v2 v3 I w hg
    unfold g_X8_countHoldings_4 at hg
    refine TT_go 2 (pc' := 7) (lv' := [(0, .ref 0), (1, .ref s), (2, .int v2), (3, .int v3)]) (st' := [.int 6, .int v3]) (h2 := (83, I, R0 p)) (by rcases hp with rfl | rfl <;> rcases hs with rfl | rfl <;> rfl) ?_
    by_cases hc1 : 6 ≤ v3
    · rw [if_pos hc1] at hg
      refine TT_ige_t (t := 40) rfl rfl hc1 ?_
      refine TT_go 1 (pc' := 41) (lv' := [(0, .ref 0), (1, .ref s), (2, .int v2), (3, .int v3)]) (st' := [.int v2]) (h2 := (83, I, R0 p)) (by rcases hp with rfl | rfl <;> rcases hs with rfl | rfl <;> rfl) ?_
      have hg := Option.some.inj hg
      subst hg
      exact TT_ret rfl rfl
    · rw [if_neg hc1] at hg
      refine TT_ige_f (t := 40) rfl rfl hc1 ?_
      refine TT_go 7 (pc' := 21) (lv' := [(0, .ref 0), (1, .ref s), (2, .int v2), (3, .int v3)]) (st' := [.int v3, .ref p, .ref s, .int v3, .ref 54]) (h2 := (83, I, R0 p)) (by rcases hp with rfl | rfl <;> rcases hs with rfl | rfl <;> rfl) ?_
      cases hq2 : g_X5_grainsOf n s p v3 I with
      | none => rw [hq2] at hg; cases hg
      | some w3 =>
        obtain ⟨r5, J4⟩ := w3
        rw [hq2] at hg
        dsimp only at hg
        refine TT_call (me' := mt_X5_grainsOf) (as := [.ref s, .ref p, .int v3]) (rest := [.int v3, .ref 54]) (r1 := some (.int r5)) (h1 := (83, J4, R0 p)) rfl rfl (by rcases hp with rfl | rfl <;> rcases hs with rfl | rfl <;> rfl) (t_X5_grainsOf hs hp hq2) ?_
        refine TT_go 0 (pc' := 24) (lv' := [(0, .ref 0), (1, .ref s), (2, .int v2), (3, .int v3)]) (st' := [.int r5, .int v3, .ref 54]) (h2 := (83, J4, R0 p)) (by rcases hp with rfl | rfl <;> rcases hs with rfl | rfl <;> rfl) ?_
        by_cases hb6 : inB v3 6 = true
        rotate_left
        · rw [if_neg hb6] at hg; cases hg
        rw [if_pos hb6] at hg
        refine TT_iast (n := 6) rfl (by rcases hp with rfl | rfl <;> rcases hs with rfl | rfl <;> rfl) hb6 ?_
        obtain ⟨J7, hJ7⟩ : ∃ x : IH, x = (up2 J4 54 (Int32.toNatClampNeg v3) r5) := ⟨_, rfl⟩
        replace hg := bnd_use hJ7 hg
        refine TT_go 0 (pc' := 25) (lv' := [(0, .ref 0), (1, .ref s), (2, .int v2), (3, .int v3)]) (st' := []) (h2 := (83, J7, R0 p)) (by subst hJ7; rcases hp with rfl | rfl <;> rcases hs with rfl | rfl <;> rfl) ?_
        refine TT_go 4 (pc' := 31) (lv' := [(0, .ref 0), (1, .ref s), (2, .int v2), (3, .int v3)]) (st' := [.int v3, .ref 54, .int v2]) (h2 := (83, J7, R0 p)) (by rcases hp with rfl | rfl <;> rcases hs with rfl | rfl <;> rfl) ?_
        by_cases hb8 : inB v3 6 = true
        rotate_left
        · rw [if_neg hb8] at hg; cases hg
        rw [if_pos hb8] at hg
        refine TT_iald (n := 6) rfl (by rcases hp with rfl | rfl <;> rcases hs with rfl | rfl <;> rfl) hb8 ?_
        obtain ⟨x9, hx9⟩ : ∃ x : Int32, x = (J7 54 (Int32.toNatClampNeg v3)) := ⟨_, rfl⟩
        replace hg := bnd_use hx9 hg
        refine TT_go 0 (pc' := 32) (lv' := [(0, .ref 0), (1, .ref s), (2, .int v2), (3, .int v3)]) (st' := [.int x9, .int v2]) (h2 := (83, J7, R0 p)) (by subst hx9; rcases hp with rfl | rfl <;> rcases hs with rfl | rfl <;> rfl) ?_
        obtain ⟨x10, hx10⟩ : ∃ x : Int32, x = ((v2 + x9)) := ⟨_, rfl⟩
        replace hg := bnd_use hx10 hg
        refine TT_go 2 (pc' := 34) (lv' := [(2, .int x10), (0, .ref 0), (1, .ref s), (3, .int v3)]) (st' := []) (h2 := (83, J7, R0 p)) (by subst hx10; rcases hp with rfl | rfl <;> rcases hs with rfl | rfl <;> rfl) ?_
        obtain ⟨x11, hx11⟩ : ∃ x : Int32, x = (v3 + 1) := ⟨_, rfl⟩
        replace hg := bnd_use hx11 hg
        refine TT_go 1 (pc' := 37) (lv' := [(3, .int x11), (2, .int x10), (0, .ref 0), (1, .ref s)]) (st' := []) (h2 := (83, J7, R0 p)) (by subst hx11; rcases hp with rfl | rfl <;> rcases hs with rfl | rfl <;> rfl) ?_
        refine TT_go 1 (pc' := 4) (lv' := [(3, .int x11), (2, .int x10), (0, .ref 0), (1, .ref s)]) (st' := []) (h2 := (83, J7, R0 p)) (by rcases hp with rfl | rfl <;> rcases hs with rfl | rfl <;> rfl) ?_
        refine TT_sub (lv2 := [(0, .ref 0), (1, .ref s), (2, .int x10), (3, .int x11)]) rfl rfl ⟨rfl, rfl, rfl, rfl, trivial⟩ ?_
        exact ih x10 x11 _ _ hg
def g_X8_countHoldings (n : Nat) (p : Nat) (s : Nat) (I : IH) : Option (Int32 × IH) :=
  g_X8_countHoldings_4 p s n 0 0 I
set_option maxRecDepth 20000 in
theorem t_X8_countHoldings {p : Nat} (hp : p = 5 ∨ p = 18) {s : Nat} (hs : s = 31 ∨ s = 33) {n : Nat} {I : IH} {w : Int32 × IH} (hg : g_X8_countHoldings n p s I = some w) : TT none mt_X8_countHoldings 0 (lv_args 0 [.ref 0, .ref s]) [] (83, I, R0 p) (some (.int w.1)) (83, w.2, R0 p) := by
  unfold g_X8_countHoldings at hg
  refine TT_go 4 (pc' := 4) (lv' := [(3, .int 0), (2, .int 0), (0, .ref 0), (1, .ref s)]) (st' := []) (h2 := (83, I, R0 p)) (by rcases hp with rfl | rfl <;> rcases hs with rfl | rfl <;> rfl) ?_
  refine TT_sub (lv2 := [(0, .ref 0), (1, .ref s), (2, .int 0), (3, .int 0)]) rfl rfl ⟨rfl, rfl, rfl, rfl, trivial⟩ ?_
  exact t_X8_countHoldings_4 hp hs n 0 0 _ _ hg
def g_X8_gains_114 (n : Nat) (p : Nat) (k69 : Int32 → Int32 → Int32 → Int32 → IH → Option (Int32 × IH)) (v4 : Int32) (v5 : Int32) (v6 : Int32) (v7 : Int32) (I : IH) : Option (Int32 × IH) :=
  bnd (v7 + 1) fun x37 =>
  k69 v4 v5 v6 x37 I
set_option maxRecDepth 20000 in
theorem t_X8_gains_114 {p : Nat} (hp : p = 5 ∨ p = 18) {n : Nat} {k69 : Int32 → Int32 → Int32 → Int32 → IH → Option (Int32 × IH)} (hk69 : ∀ (v4 : Int32) (v5 : Int32) (v6 : Int32) (v7 : Int32) (I : IH) (w : Int32 × IH), k69 v4 v5 v6 v7 I = some w → TT none mt_X8_gains 69 [(0, .ref 0), (4, .int v4), (5, .int v5), (6, .int v6), (7, .int v7)] [] (83, I, R0 p) (some (.int w.1)) (83, w.2, R0 p)) {v4 : Int32} {v5 : Int32} {v6 : Int32} {v7 : Int32} {I : IH} {w : Int32 × IH} (hg : g_X8_gains_114 n p k69 v4 v5 v6 v7 I = some w) : TT none mt_X8_gains 114 [(0, .ref 0), (4, .int v4), (5, .int v5), (6, .int v6), (7, .int v7)] [] (83, I, R0 p) (some (.int w.1)) (83, w.2, R0 p) := by
  unfold g_X8_gains_114 at hg
  obtain ⟨x37, hx37⟩ : ∃ x : Int32, x = (v7 + 1) := ⟨_, rfl⟩
  replace hg := bnd_use hx37 hg
  refine TT_go 1 (pc' := 117) (lv' := [(7, .int x37), (0, .ref 0), (4, .int v4), (5, .int v5), (6, .int v6)]) (st' := []) (h2 := (83, I, R0 p)) (by subst hx37; rcases hp with rfl | rfl <;> rfl) ?_
  refine TT_go 1 (pc' := 69) (lv' := [(7, .int x37), (0, .ref 0), (4, .int v4), (5, .int v5), (6, .int v6)]) (st' := []) (h2 := (83, I, R0 p)) (by rcases hp with rfl | rfl <;> rfl) ?_
  refine TT_sub (lv2 := [(0, .ref 0), (4, .int v4), (5, .int v5), (6, .int v6), (7, .int x37)]) rfl rfl ⟨rfl, rfl, rfl, rfl, rfl, trivial⟩ ?_
  exact hk69 v4 v5 v6 x37 _ _ hg
def g_X8_gains_69 (p : Nat) : Nat → Int32 → Int32 → Int32 → Int32 → IH → Option (Int32 × IH)
  | 0, _, _, _, _, _ => none
  | n + 1, v4, v5, v6, v7, I =>
    if 6 ≤ v7 then
      if v4 = 0 then
        some (v5, I)
      else
        some ((v6 + 100000), I)
    else
      match g_X5_grainsOf n 33 p v7 I with
      | none => none
      | some (r32, J31) =>
        if inB v7 6 = true then
          bnd (J31 54 (Int32.toNatClampNeg v7)) fun x34 =>
          bnd ((r32 - x34)) fun x35 =>
          if x35 ≤ v6 then
            g_X8_gains_114 n p (g_X8_gains_69 p n) v4 v5 v6 v7 J31
          else
            g_X8_gains_114 n p (g_X8_gains_69 p n) v4 v7 x35 v7 J31
        else none
set_option maxRecDepth 20000 in
theorem t_X8_gains_69 {p : Nat} (hp : p = 5 ∨ p = 18) : ∀ (n : Nat) (v4 : Int32) (v5 : Int32) (v6 : Int32) (v7 : Int32) (I : IH) (w : Int32 × IH), g_X8_gains_69 p n v4 v5 v6 v7 I = some w → TT none mt_X8_gains 69 [(0, .ref 0), (4, .int v4), (5, .int v5), (6, .int v6), (7, .int v7)] [] (83, I, R0 p) (some (.int w.1)) (83, w.2, R0 p) := by
  intro n
  induction n with
  | zero => intro v4 v5 v6 v7 I w hg; cases hg
  | succ n ih =>
    intro v4 v5 v6 v7 I w hg
    unfold g_X8_gains_69 at hg
    refine TT_go 2 (pc' := 73) (lv' := [(0, .ref 0), (4, .int v4), (5, .int v5), (6, .int v6), (7, .int v7)]) (st' := [.int 6, .int v7]) (h2 := (83, I, R0 p)) (by rcases hp with rfl | rfl <;> rfl) ?_
    by_cases hc27 : 6 ≤ v7
    · rw [if_pos hc27] at hg
      refine TT_ige_t (t := 120) rfl rfl hc27 ?_
      refine TT_go 1 (pc' := 122) (lv' := [(0, .ref 0), (4, .int v4), (5, .int v5), (6, .int v6), (7, .int v7)]) (st' := [.int v4]) (h2 := (83, I, R0 p)) (by rcases hp with rfl | rfl <;> rfl) ?_
      by_cases hc28 : v4 = 0
      · rw [if_pos hc28] at hg
        refine TT_zne_f (t := 130) rfl rfl hc28 ?_
        refine TT_go 2 (pc' := 135) (lv' := [(0, .ref 0), (4, .int v4), (5, .int v5), (6, .int v6), (7, .int v7)]) (st' := [.int v5]) (h2 := (83, I, R0 p)) (by rcases hp with rfl | rfl <;> rfl) ?_
        have hg := Option.some.inj hg
        subst hg
        exact TT_ret rfl rfl
      · rw [if_neg hc28] at hg
        refine TT_zne_t (t := 130) rfl rfl hc28 ?_
        refine TT_go 3 (pc' := 135) (lv' := [(0, .ref 0), (4, .int v4), (5, .int v5), (6, .int v6), (7, .int v7)]) (st' := [.int (v6 + 100000)]) (h2 := (83, I, R0 p)) (by rcases hp with rfl | rfl <;> rfl) ?_
        have hg := Option.some.inj hg
        subst hg
        exact TT_ret rfl rfl
    · rw [if_neg hc27] at hg
      refine TT_ige_f (t := 120) rfl rfl hc27 ?_
      refine TT_go 5 (pc' := 86) (lv' := [(0, .ref 0), (4, .int v4), (5, .int v5), (6, .int v6), (7, .int v7)]) (st' := [.int v7, .ref p, .ref 33]) (h2 := (83, I, R0 p)) (by rcases hp with rfl | rfl <;> rfl) ?_
      cases hq29 : g_X5_grainsOf n 33 p v7 I with
      | none => rw [hq29] at hg; cases hg
      | some w30 =>
        obtain ⟨r32, J31⟩ := w30
        rw [hq29] at hg
        dsimp only at hg
        refine TT_call (me' := mt_X5_grainsOf) (as := [.ref 33, .ref p, .int v7]) (rest := []) (r1 := some (.int r32)) (h1 := (83, J31, R0 p)) rfl rfl (by rcases hp with rfl | rfl <;> rfl) (t_X5_grainsOf (Or.inr rfl) hp hq29) ?_
        refine TT_go 3 (pc' := 95) (lv' := [(0, .ref 0), (4, .int v4), (5, .int v5), (6, .int v6), (7, .int v7)]) (st' := [.int v7, .ref 54, .int r32]) (h2 := (83, J31, R0 p)) (by rcases hp with rfl | rfl <;> rfl) ?_
        by_cases hb33 : inB v7 6 = true
        rotate_left
        · rw [if_neg hb33] at hg; cases hg
        rw [if_pos hb33] at hg
        refine TT_iald (n := 6) rfl (by rcases hp with rfl | rfl <;> rfl) hb33 ?_
        obtain ⟨x34, hx34⟩ : ∃ x : Int32, x = (J31 54 (Int32.toNatClampNeg v7)) := ⟨_, rfl⟩
        replace hg := bnd_use hx34 hg
        refine TT_go 0 (pc' := 96) (lv' := [(0, .ref 0), (4, .int v4), (5, .int v5), (6, .int v6), (7, .int v7)]) (st' := [.int x34, .int r32]) (h2 := (83, J31, R0 p)) (by subst hx34; rcases hp with rfl | rfl <;> rfl) ?_
        obtain ⟨x35, hx35⟩ : ∃ x : Int32, x = ((r32 - x34)) := ⟨_, rfl⟩
        replace hg := bnd_use hx35 hg
        refine TT_go 2 (pc' := 99) (lv' := [(8, .int x35), (0, .ref 0), (4, .int v4), (5, .int v5), (6, .int v6), (7, .int v7)]) (st' := []) (h2 := (83, J31, R0 p)) (by subst hx35; rcases hp with rfl | rfl <;> rfl) ?_
        refine TT_go 2 (pc' := 103) (lv' := [(8, .int x35), (0, .ref 0), (4, .int v4), (5, .int v5), (6, .int v6), (7, .int v7)]) (st' := [.int v6, .int x35]) (h2 := (83, J31, R0 p)) (by rcases hp with rfl | rfl <;> rfl) ?_
        by_cases hc36 : x35 ≤ v6
        · rw [if_pos hc36] at hg
          refine TT_ile_t (t := 114) rfl rfl hc36 ?_
          refine TT_go 0 (pc' := 114) (lv' := [(8, .int x35), (0, .ref 0), (4, .int v4), (5, .int v5), (6, .int v6), (7, .int v7)]) (st' := []) (h2 := (83, J31, R0 p)) (by rcases hp with rfl | rfl <;> rfl) ?_
          refine TT_sub (lv2 := [(0, .ref 0), (4, .int v4), (5, .int v5), (6, .int v6), (7, .int v7)]) rfl rfl ⟨rfl, rfl, rfl, rfl, rfl, trivial⟩ ?_
          exact t_X8_gains_114 hp ih hg
        · rw [if_neg hc36] at hg
          refine TT_ile_f (t := 114) rfl rfl hc36 ?_
          refine TT_go 4 (pc' := 114) (lv' := [(6, .int x35), (5, .int v7), (8, .int x35), (0, .ref 0), (4, .int v4), (7, .int v7)]) (st' := []) (h2 := (83, J31, R0 p)) (by rcases hp with rfl | rfl <;> rfl) ?_
          refine TT_sub (lv2 := [(0, .ref 0), (4, .int v4), (5, .int v7), (6, .int x35), (7, .int v7)]) rfl rfl ⟨rfl, rfl, rfl, rfl, rfl, trivial⟩ ?_
          exact t_X8_gains_114 hp ih hg
def g_X8_gains (n : Nat) (p : Nat) (a0 : Int32) (a1 : Int32) (a2 : Int32) (a3 : Int32) (I : IH) : Option (Int32 × IH) :=
  match g_X8_isDelay n p a0 a1 a2 I with
  | none => none
  | some (r4, J3) =>
    if r4 = 0 then
      some ((-1), J3)
    else
      match g_X8_within n a3 0 1 J3 with
      | none => none
      | some (r9, J8) =>
        if r9 = 0 then
          some ((-1), J8)
        else
          match g_X8_lookAhead n p a2 (-1) 0 J8 with
          | none => none
          | some J13 =>
            match g_X8_countHoldings n p 33 J13 with
            | none => none
            | some (r17, J16) =>
              match g_X8_lookAhead n p a2 a0 a1 J16 with
              | none => none
              | some J20 =>
                match g_X5_grainsOf n 33 p 0 J20 with
                | none => none
                | some (r24, J23) =>
                  bnd (J23 54 0) fun x25 =>
                  bnd ((r24 - x25)) fun x26 =>
                  g_X8_gains_69 p n a3 0 x26 1 J23
set_option maxRecDepth 20000 in
theorem t_X8_gains {p : Nat} (hp : p = 5 ∨ p = 18) {n : Nat} {a0 : Int32} {a1 : Int32} {a2 : Int32} {a3 : Int32} {I : IH} {w : Int32 × IH} (hg : g_X8_gains n p a0 a1 a2 a3 I = some w) : TT none mt_X8_gains 0 (lv_args 0 [.ref 0, .int a0, .int a1, .int a2, .int a3]) [] (83, I, R0 p) (some (.int w.1)) (83, w.2, R0 p) := by
  unfold g_X8_gains at hg
  refine TT_go 4 (pc' := 4) (lv' := [(0, .ref 0), (1, .int a0), (2, .int a1), (3, .int a2), (4, .int a3)]) (st' := [.int a2, .int a1, .int a0, .ref 0]) (h2 := (83, I, R0 p)) (by rcases hp with rfl | rfl <;> rfl) ?_
  cases hq1 : g_X8_isDelay n p a0 a1 a2 I with
  | none => rw [hq1] at hg; cases hg
  | some w2 =>
    obtain ⟨r4, J3⟩ := w2
    rw [hq1] at hg
    dsimp only at hg
    refine TT_call (me' := mt_X8_isDelay) (as := [.ref 0, .int a0, .int a1, .int a2]) (rest := []) (r1 := some (.int r4)) (h1 := (83, J3, R0 p)) rfl rfl (by rcases hp with rfl | rfl <;> rfl) (t_X8_isDelay hp hq1) ?_
    refine TT_go 0 (pc' := 7) (lv' := [(0, .ref 0), (1, .int a0), (2, .int a1), (3, .int a2), (4, .int a3)]) (st' := [.int r4]) (h2 := (83, J3, R0 p)) (by rcases hp with rfl | rfl <;> rfl) ?_
    by_cases hc5 : r4 = 0
    · rw [if_pos hc5] at hg
      refine TT_zeq_t (t := 20) rfl rfl hc5 ?_
      refine TT_go 1 (pc' := 21) (lv' := [(0, .ref 0), (1, .int a0), (2, .int a1), (3, .int a2), (4, .int a3)]) (st' := [.int (-1)]) (h2 := (83, J3, R0 p)) (by rcases hp with rfl | rfl <;> rfl) ?_
      have hg := Option.some.inj hg
      subst hg
      exact TT_ret rfl rfl
    · rw [if_neg hc5] at hg
      refine TT_zeq_f (t := 20) rfl rfl hc5 ?_
      refine TT_go 3 (pc' := 14) (lv' := [(0, .ref 0), (1, .int a0), (2, .int a1), (3, .int a2), (4, .int a3)]) (st' := [.int 1, .int 0, .int a3]) (h2 := (83, J3, R0 p)) (by rcases hp with rfl | rfl <;> rfl) ?_
      cases hq6 : g_X8_within n a3 0 1 J3 with
      | none => rw [hq6] at hg; cases hg
      | some w7 =>
        obtain ⟨r9, J8⟩ := w7
        rw [hq6] at hg
        dsimp only at hg
        refine TT_call (me' := mt_X8_within) (as := [.int a3, .int 0, .int 1]) (rest := []) (r1 := some (.int r9)) (h1 := (83, J8, R0 p)) rfl rfl (by rcases hp with rfl | rfl <;> rfl) (t_X8_within hq6) ?_
        refine TT_go 0 (pc' := 17) (lv' := [(0, .ref 0), (1, .int a0), (2, .int a1), (3, .int a2), (4, .int a3)]) (st' := [.int r9]) (h2 := (83, J8, R0 p)) (by rcases hp with rfl | rfl <;> rfl) ?_
        by_cases hc10 : r9 = 0
        · rw [if_pos hc10] at hg
          refine TT_zne_f (t := 22) rfl rfl hc10 ?_
          refine TT_go 1 (pc' := 21) (lv' := [(0, .ref 0), (1, .int a0), (2, .int a1), (3, .int a2), (4, .int a3)]) (st' := [.int (-1)]) (h2 := (83, J8, R0 p)) (by rcases hp with rfl | rfl <;> rfl) ?_
          have hg := Option.some.inj hg
          subst hg
          exact TT_ret rfl rfl
        · rw [if_neg hc10] at hg
          refine TT_zne_t (t := 22) rfl rfl hc10 ?_
          refine TT_go 5 (pc' := 27) (lv' := [(0, .ref 0), (1, .int a0), (2, .int a1), (3, .int a2), (4, .int a3)]) (st' := [.int 0, .int (-1), .int a2, .ref 0, .ref 0]) (h2 := (83, J8, R0 p)) (by rcases hp with rfl | rfl <;> rfl) ?_
          cases hq11 : g_X8_lookAhead n p a2 (-1) 0 J8 with
          | none => rw [hq11] at hg; cases hg
          | some w12 =>
            obtain ⟨J13, hJ13⟩ : ∃ J, J = w12 := ⟨_, rfl⟩
            rw [← hJ13] at hq11
            rw [hq11] at hg
            dsimp only at hg
            refine TT_call (me' := mt_X8_lookAhead) (as := [.ref 0, .int a2, .int (-1), .int 0]) (rest := [.ref 0]) (r1 := some (.ref 33)) (h1 := (83, J13, R0 p)) rfl rfl (by rcases hp with rfl | rfl <;> rfl) (t_X8_lookAhead hp hq11) ?_
            refine TT_go 0 (pc' := 30) (lv' := [(0, .ref 0), (1, .int a0), (2, .int a1), (3, .int a2), (4, .int a3)]) (st' := [.ref 33, .ref 0]) (h2 := (83, J13, R0 p)) (by rcases hp with rfl | rfl <;> rfl) ?_
            cases hq14 : g_X8_countHoldings n p 33 J13 with
            | none => rw [hq14] at hg; cases hg
            | some w15 =>
              obtain ⟨r17, J16⟩ := w15
              rw [hq14] at hg
              dsimp only at hg
              refine TT_call (me' := mt_X8_countHoldings) (as := [.ref 0, .ref 33]) (rest := []) (r1 := some (.int r17)) (h1 := (83, J16, R0 p)) rfl rfl (by rcases hp with rfl | rfl <;> rfl) (t_X8_countHoldings hp (Or.inr rfl) hq14) ?_
              refine TT_go 5 (pc' := 38) (lv' := [(0, .ref 0), (1, .int a0), (2, .int a1), (3, .int a2), (4, .int a3)]) (st' := [.int a1, .int a0, .int a2, .ref 0]) (h2 := (83, J16, R0 p)) (by rcases hp with rfl | rfl <;> rfl) ?_
              cases hq18 : g_X8_lookAhead n p a2 a0 a1 J16 with
              | none => rw [hq18] at hg; cases hg
              | some w19 =>
                obtain ⟨J20, hJ20⟩ : ∃ J, J = w19 := ⟨_, rfl⟩
                rw [← hJ20] at hq18
                rw [hq18] at hg
                dsimp only at hg
                refine TT_call (me' := mt_X8_lookAhead) (as := [.ref 0, .int a2, .int a0, .int a1]) (rest := []) (r1 := some (.ref 33)) (h1 := (83, J20, R0 p)) rfl rfl (by rcases hp with rfl | rfl <;> rfl) (t_X8_lookAhead hp hq18) ?_
                refine TT_go 8 (pc' := 54) (lv' := [(5, .int 0), (0, .ref 0), (1, .int a0), (2, .int a1), (3, .int a2), (4, .int a3)]) (st' := [.int 0, .ref p, .ref 33]) (h2 := (83, J20, R0 p)) (by rcases hp with rfl | rfl <;> rfl) ?_
                cases hq21 : g_X5_grainsOf n 33 p 0 J20 with
                | none => rw [hq21] at hg; cases hg
                | some w22 =>
                  obtain ⟨r24, J23⟩ := w22
                  rw [hq21] at hg
                  dsimp only at hg
                  refine TT_call (me' := mt_X5_grainsOf) (as := [.ref 33, .ref p, .int 0]) (rest := []) (r1 := some (.int r24)) (h1 := (83, J23, R0 p)) rfl rfl (by rcases hp with rfl | rfl <;> rfl) (t_X5_grainsOf (Or.inr rfl) hp hq21) ?_
                  obtain ⟨x25, hx25⟩ : ∃ x : Int32, x = (J23 54 0) := ⟨_, rfl⟩
                  replace hg := bnd_use hx25 hg
                  refine TT_go 4 (pc' := 63) (lv' := [(5, .int 0), (0, .ref 0), (1, .int a0), (2, .int a1), (3, .int a2), (4, .int a3)]) (st' := [.int x25, .int r24]) (h2 := (83, J23, R0 p)) (by subst hx25; rcases hp with rfl | rfl <;> rfl) ?_
                  obtain ⟨x26, hx26⟩ : ∃ x : Int32, x = ((r24 - x25)) := ⟨_, rfl⟩
                  replace hg := bnd_use hx26 hg
                  refine TT_go 2 (pc' := 66) (lv' := [(6, .int x26), (5, .int 0), (0, .ref 0), (1, .int a0), (2, .int a1), (3, .int a2), (4, .int a3)]) (st' := []) (h2 := (83, J23, R0 p)) (by subst hx26; rcases hp with rfl | rfl <;> rfl) ?_
                  refine TT_go 2 (pc' := 69) (lv' := [(7, .int 1), (6, .int x26), (5, .int 0), (0, .ref 0), (1, .int a0), (2, .int a1), (3, .int a2), (4, .int a3)]) (st' := []) (h2 := (83, J23, R0 p)) (by rcases hp with rfl | rfl <;> rfl) ?_
                  refine TT_sub (lv2 := [(0, .ref 0), (4, .int a3), (5, .int 0), (6, .int x26), (7, .int 1)]) rfl rfl ⟨rfl, rfl, rfl, rfl, rfl, trivial⟩ ?_
                  exact t_X8_gains_69 hp n a3 0 x26 1 _ _ hg
def g_X8_run_71 (n : Nat) (p : Nat) (k32 : Int32 → Int32 → Int32 → Int32 → Int32 → IH → Option (Int32 × IH)) (v1 : Int32) (v2 : Int32) (v3 : Int32) (v4 : Int32) (v5 : Int32) (v6 : Int32) (I : IH) : Option (Int32 × IH) :=
  bnd ((if v4 < v6 then v6 else v4)) fun x18 =>
  bnd (v5 + 1) fun x19 =>
  k32 v1 v2 v3 x18 x19 I
set_option maxRecDepth 20000 in
theorem t_X8_run_71 {p : Nat} (hp : p = 5 ∨ p = 18) {n : Nat} {k32 : Int32 → Int32 → Int32 → Int32 → Int32 → IH → Option (Int32 × IH)} (hk32 : ∀ (v1 : Int32) (v2 : Int32) (v3 : Int32) (v4 : Int32) (v5 : Int32) (I : IH) (w : Int32 × IH), k32 v1 v2 v3 v4 v5 I = some w → TT none mt_X8_run 32 [(0, .ref 0), (1, .int v1), (2, .int v2), (3, .int v3), (4, .int v4), (5, .int v5)] [] (83, I, R0 p) (some (.int w.1)) (83, w.2, R0 p)) {v1 : Int32} {v2 : Int32} {v3 : Int32} {v4 : Int32} {v5 : Int32} {v6 : Int32} {I : IH} {w : Int32 × IH} (hg : g_X8_run_71 n p k32 v1 v2 v3 v4 v5 v6 I = some w) : TT none mt_X8_run 71 [(0, .ref 0), (1, .int v1), (2, .int v2), (3, .int v3), (4, .int v4), (5, .int v5), (6, .int v6)] [] (83, I, R0 p) (some (.int w.1)) (83, w.2, R0 p) := by
  unfold g_X8_run_71 at hg
  obtain ⟨x18, hx18⟩ : ∃ x : Int32, x = ((if v4 < v6 then v6 else v4)) := ⟨_, rfl⟩
  replace hg := bnd_use hx18 hg
  refine TT_go 4 (pc' := 80) (lv' := [(4, .int x18), (0, .ref 0), (1, .int v1), (2, .int v2), (3, .int v3), (5, .int v5), (6, .int v6)]) (st' := []) (h2 := (83, I, R0 p)) (by subst hx18; rcases hp with rfl | rfl <;> rfl) ?_
  obtain ⟨x19, hx19⟩ : ∃ x : Int32, x = (v5 + 1) := ⟨_, rfl⟩
  replace hg := bnd_use hx19 hg
  refine TT_go 1 (pc' := 83) (lv' := [(5, .int x19), (4, .int x18), (0, .ref 0), (1, .int v1), (2, .int v2), (3, .int v3), (6, .int v6)]) (st' := []) (h2 := (83, I, R0 p)) (by subst hx19; rcases hp with rfl | rfl <;> rfl) ?_
  refine TT_go 1 (pc' := 32) (lv' := [(5, .int x19), (4, .int x18), (0, .ref 0), (1, .int v1), (2, .int v2), (3, .int v3), (6, .int v6)]) (st' := []) (h2 := (83, I, R0 p)) (by rcases hp with rfl | rfl <;> rfl) ?_
  refine TT_sub (lv2 := [(0, .ref 0), (1, .int v1), (2, .int v2), (3, .int v3), (4, .int x18), (5, .int x19)]) rfl rfl ⟨rfl, rfl, rfl, rfl, rfl, rfl, trivial⟩ ?_
  exact hk32 v1 v2 v3 x18 x19 _ _ hg
def g_X8_run_32 (p : Nat) : Nat → Int32 → Int32 → Int32 → Int32 → Int32 → IH → Option (Int32 × IH)
  | 0, _, _, _, _, _, _ => none
  | n + 1, v1, v2, v3, v4, v5, I =>
    if (I p 0) ≤ v5 then
      if v1 = 0 then
        some (v2, I)
      else
        if v1 = 1 then
          some (v3, I)
        else
          some (v4, I)
    else
      match g_X5_minutesLeft n 31 p v5 I with
      | none => none
      | some (r16, J15) =>
        if v3 ≤ r16 then
          g_X8_run_71 n p (g_X8_run_32 p n) v1 v2 v3 v4 v5 r16 J15
        else
          g_X8_run_71 n p (g_X8_run_32 p n) v1 v5 r16 v4 v5 r16 J15
set_option maxRecDepth 20000 in
theorem t_X8_run_32 {p : Nat} (hp : p = 5 ∨ p = 18) : ∀ (n : Nat) (v1 : Int32) (v2 : Int32) (v3 : Int32) (v4 : Int32) (v5 : Int32) (I : IH) (w : Int32 × IH), g_X8_run_32 p n v1 v2 v3 v4 v5 I = some w → TT none mt_X8_run 32 [(0, .ref 0), (1, .int v1), (2, .int v2), (3, .int v3), (4, .int v4), (5, .int v5)] [] (83, I, R0 p) (some (.int w.1)) (83, w.2, R0 p) := by
  intro n
  induction n with
  | zero => intro v1 v2 v3 v4 v5 I w hg; cases hg
  | succ n ih =>
    intro v1 v2 v3 v4 v5 I w hg
    unfold g_X8_run_32 at hg
    refine TT_go 4 (pc' := 41) (lv' := [(0, .ref 0), (1, .int v1), (2, .int v2), (3, .int v3), (4, .int v4), (5, .int v5)]) (st' := [.int (I p 0), .int v5]) (h2 := (83, I, R0 p)) (by rcases hp with rfl | rfl <;> rfl) ?_
    by_cases hc10 : (I p 0) ≤ v5
    · rw [if_pos hc10] at hg
      refine TT_ige_t (t := 86) rfl rfl hc10 ?_
      refine TT_go 1 (pc' := 87) (lv' := [(0, .ref 0), (1, .int v1), (2, .int v2), (3, .int v3), (4, .int v4), (5, .int v5)]) (st' := [.int v1]) (h2 := (83, I, R0 p)) (by rcases hp with rfl | rfl <;> rfl) ?_
      by_cases hc11 : v1 = 0
      · rw [if_pos hc11] at hg
        refine TT_zne_f (t := 92) rfl rfl hc11 ?_
        refine TT_go 1 (pc' := 91) (lv' := [(0, .ref 0), (1, .int v1), (2, .int v2), (3, .int v3), (4, .int v4), (5, .int v5)]) (st' := [.int v2]) (h2 := (83, I, R0 p)) (by rcases hp with rfl | rfl <;> rfl) ?_
        have hg := Option.some.inj hg
        subst hg
        exact TT_ret rfl rfl
      · rw [if_neg hc11] at hg
        refine TT_zne_t (t := 92) rfl rfl hc11 ?_
        refine TT_go 2 (pc' := 94) (lv' := [(0, .ref 0), (1, .int v1), (2, .int v2), (3, .int v3), (4, .int v4), (5, .int v5)]) (st' := [.int 1, .int v1]) (h2 := (83, I, R0 p)) (by rcases hp with rfl | rfl <;> rfl) ?_
        by_cases hc12 : v1 = 1
        · rw [if_pos hc12] at hg
          refine TT_ine_f (t := 101) rfl rfl hc12 ?_
          refine TT_go 2 (pc' := 103) (lv' := [(0, .ref 0), (1, .int v1), (2, .int v2), (3, .int v3), (4, .int v4), (5, .int v5)]) (st' := [.int v3]) (h2 := (83, I, R0 p)) (by rcases hp with rfl | rfl <;> rfl) ?_
          have hg := Option.some.inj hg
          subst hg
          exact TT_ret rfl rfl
        · rw [if_neg hc12] at hg
          refine TT_ine_t (t := 101) rfl rfl hc12 ?_
          refine TT_go 1 (pc' := 103) (lv' := [(0, .ref 0), (1, .int v1), (2, .int v2), (3, .int v3), (4, .int v4), (5, .int v5)]) (st' := [.int v4]) (h2 := (83, I, R0 p)) (by rcases hp with rfl | rfl <;> rfl) ?_
          have hg := Option.some.inj hg
          subst hg
          exact TT_ret rfl rfl
    · rw [if_neg hc10] at hg
      refine TT_ige_f (t := 86) rfl rfl hc10 ?_
      refine TT_go 5 (pc' := 54) (lv' := [(0, .ref 0), (1, .int v1), (2, .int v2), (3, .int v3), (4, .int v4), (5, .int v5)]) (st' := [.int v5, .ref p, .ref 31]) (h2 := (83, I, R0 p)) (by rcases hp with rfl | rfl <;> rfl) ?_
      cases hq13 : g_X5_minutesLeft n 31 p v5 I with
      | none => rw [hq13] at hg; cases hg
      | some w14 =>
        obtain ⟨r16, J15⟩ := w14
        rw [hq13] at hg
        dsimp only at hg
        refine TT_call (me' := mt_X5_minutesLeft) (as := [.ref 31, .ref p, .int v5]) (rest := []) (r1 := some (.int r16)) (h1 := (83, J15, R0 p)) rfl rfl (by rcases hp with rfl | rfl <;> rfl) (t_X5_minutesLeft (Or.inl rfl) hp hq13) ?_
        refine TT_go 3 (pc' := 62) (lv' := [(6, .int r16), (0, .ref 0), (1, .int v1), (2, .int v2), (3, .int v3), (4, .int v4), (5, .int v5)]) (st' := [.int v3, .int r16]) (h2 := (83, J15, R0 p)) (by rcases hp with rfl | rfl <;> rfl) ?_
        by_cases hc17 : v3 ≤ r16
        · rw [if_pos hc17] at hg
          refine TT_ige_t (t := 71) rfl rfl hc17 ?_
          refine TT_go 0 (pc' := 71) (lv' := [(6, .int r16), (0, .ref 0), (1, .int v1), (2, .int v2), (3, .int v3), (4, .int v4), (5, .int v5)]) (st' := []) (h2 := (83, J15, R0 p)) (by rcases hp with rfl | rfl <;> rfl) ?_
          refine TT_sub (lv2 := [(0, .ref 0), (1, .int v1), (2, .int v2), (3, .int v3), (4, .int v4), (5, .int v5), (6, .int r16)]) rfl rfl ⟨rfl, rfl, rfl, rfl, rfl, rfl, rfl, trivial⟩ ?_
          exact t_X8_run_71 hp ih hg
        · rw [if_neg hc17] at hg
          refine TT_ige_f (t := 71) rfl rfl hc17 ?_
          refine TT_go 4 (pc' := 71) (lv' := [(3, .int r16), (2, .int v5), (6, .int r16), (0, .ref 0), (1, .int v1), (4, .int v4), (5, .int v5)]) (st' := []) (h2 := (83, J15, R0 p)) (by rcases hp with rfl | rfl <;> rfl) ?_
          refine TT_sub (lv2 := [(0, .ref 0), (1, .int v1), (2, .int v5), (3, .int r16), (4, .int v4), (5, .int v5), (6, .int r16)]) rfl rfl ⟨rfl, rfl, rfl, rfl, rfl, rfl, rfl, trivial⟩ ?_
          exact t_X8_run_71 hp ih hg
def g_X8_run (n : Nat) (p : Nat) (a0 : Int32) (I : IH) : Option (Int32 × IH) :=
  match g_X8_within n a0 0 2 I with
  | none => none
  | some (r4, J3) =>
    if r4 = 0 then
      some ((-1), J3)
    else
      match g_X5_minutesLeft n 31 p 0 J3 with
      | none => none
      | some (r9, J8) =>
        g_X8_run_32 p n a0 0 r9 r9 1 J8
set_option maxRecDepth 20000 in
theorem t_X8_run {p : Nat} (hp : p = 5 ∨ p = 18) {n : Nat} {a0 : Int32} {I : IH} {w : Int32 × IH} (hg : g_X8_run n p a0 I = some w) : TT none mt_X8_run 0 (lv_args 0 [.ref 0, .int a0]) [] (83, I, R0 p) (some (.int w.1)) (83, w.2, R0 p) := by
  unfold g_X8_run at hg
  refine TT_go 3 (pc' := 3) (lv' := [(0, .ref 0), (1, .int a0)]) (st' := [.int 2, .int 0, .int a0]) (h2 := (83, I, R0 p)) (by rcases hp with rfl | rfl <;> rfl) ?_
  cases hq1 : g_X8_within n a0 0 2 I with
  | none => rw [hq1] at hg; cases hg
  | some w2 =>
    obtain ⟨r4, J3⟩ := w2
    rw [hq1] at hg
    dsimp only at hg
    refine TT_call (me' := mt_X8_within) (as := [.int a0, .int 0, .int 2]) (rest := []) (r1 := some (.int r4)) (h1 := (83, J3, R0 p)) rfl rfl (by rcases hp with rfl | rfl <;> rfl) (t_X8_within hq1) ?_
    refine TT_go 0 (pc' := 6) (lv' := [(0, .ref 0), (1, .int a0)]) (st' := [.int r4]) (h2 := (83, J3, R0 p)) (by rcases hp with rfl | rfl <;> rfl) ?_
    by_cases hc5 : r4 = 0
    · rw [if_pos hc5] at hg
      refine TT_zne_f (t := 11) rfl rfl hc5 ?_
      refine TT_go 1 (pc' := 10) (lv' := [(0, .ref 0), (1, .int a0)]) (st' := [.int (-1)]) (h2 := (83, J3, R0 p)) (by rcases hp with rfl | rfl <;> rfl) ?_
      have hg := Option.some.inj hg
      subst hg
      exact TT_ret rfl rfl
    · rw [if_neg hc5] at hg
      refine TT_zne_t (t := 11) rfl rfl hc5 ?_
      refine TT_go 7 (pc' := 22) (lv' := [(2, .int 0), (0, .ref 0), (1, .int a0)]) (st' := [.int 0, .ref p, .ref 31]) (h2 := (83, J3, R0 p)) (by rcases hp with rfl | rfl <;> rfl) ?_
      cases hq6 : g_X5_minutesLeft n 31 p 0 J3 with
      | none => rw [hq6] at hg; cases hg
      | some w7 =>
        obtain ⟨r9, J8⟩ := w7
        rw [hq6] at hg
        dsimp only at hg
        refine TT_call (me' := mt_X5_minutesLeft) (as := [.ref 31, .ref p, .int 0]) (rest := []) (r1 := some (.int r9)) (h1 := (83, J8, R0 p)) rfl rfl (by rcases hp with rfl | rfl <;> rfl) (t_X5_minutesLeft (Or.inl rfl) hp hq6) ?_
        refine TT_go 5 (pc' := 32) (lv' := [(5, .int 1), (4, .int r9), (3, .int r9), (2, .int 0), (0, .ref 0), (1, .int a0)]) (st' := []) (h2 := (83, J8, R0 p)) (by rcases hp with rfl | rfl <;> rfl) ?_
        refine TT_sub (lv2 := [(0, .ref 0), (1, .int a0), (2, .int 0), (3, .int r9), (4, .int r9), (5, .int 1)]) rfl rfl ⟨rfl, rfl, rfl, rfl, rfl, rfl, trivial⟩ ?_
        exact t_X8_run_32 hp n a0 0 r9 r9 1 _ _ hg
