/-! Written by wip/whole/gen20.py. -/
def g_X8_round (n : Nat) (p : Nat) (a0 : Int32) (a1 : Int32) (a2 : Int32) (I : IH) : Option (Int32 × IH) :=
  match g_X8_within n a0 1 3 I with
  | none => none
  | some (r4, J3) =>
    if r4 = 0 then
      some ((-1), J3)
    else
      match g_X8_within n a1 1 200 J3 with
      | none => none
      | some (r9, J8) =>
        if r9 = 0 then
          some ((-1), J8)
        else
          match g_X8_within n a2 (-1) (a0 - 1) J8 with
          | none => none
          | some (r14, J13) =>
            if r14 = 0 then
              some ((-1), J13)
            else
              match g_X4_search n p a0 a1 J13 with
              | none => none
              | some J18 =>
                if 0 ≤ a2 then
                  if inB a2 3 = true then
                    bnd (J18 46 (Int32.toNatClampNeg a2)) fun x21 =>
                    some (x21, J18)
                  else none
                else
                  some ((J18 44 2), J18)
set_option maxRecDepth 20000 in
theorem t_X8_round {p : Nat} (hp : p = 5 ∨ p = 18) {n : Nat} {a0 : Int32} {a1 : Int32} {a2 : Int32} {I : IH} {w : Int32 × IH} (hg : g_X8_round n p a0 a1 a2 I = some w) : TT none mt_X8_round 0 (lv_args 0 [.ref 0, .int a0, .int a1, .int a2]) [] (83, I, R0 p) (some (.int w.1)) (83, w.2, R0 p) := by
  unfold g_X8_round at hg
  refine TT_go 3 (pc' := 3) (lv' := [(0, .ref 0), (1, .int a0), (2, .int a1), (3, .int a2)]) (st' := [.int 3, .int 1, .int a0]) (h2 := (83, I, R0 p)) (by rcases hp with rfl | rfl <;> rfl) ?_
  cases hq1 : g_X8_within n a0 1 3 I with
  | none => rw [hq1] at hg; cases hg
  | some w2 =>
    obtain ⟨r4, J3⟩ := w2
    rw [hq1] at hg
    dsimp only at hg
    refine TT_call (me' := mt_X8_within) (as := [.int a0, .int 1, .int 3]) (rest := []) (r1 := some (.int r4)) (h1 := (83, J3, R0 p)) rfl rfl (by rcases hp with rfl | rfl <;> rfl) (t_X8_within hq1) ?_
    refine TT_go 0 (pc' := 6) (lv' := [(0, .ref 0), (1, .int a0), (2, .int a1), (3, .int a2)]) (st' := [.int r4]) (h2 := (83, J3, R0 p)) (by rcases hp with rfl | rfl <;> rfl) ?_
    by_cases hc5 : r4 = 0
    · rw [if_pos hc5] at hg
      refine TT_zeq_t (t := 31) rfl rfl hc5 ?_
      refine TT_go 1 (pc' := 32) (lv' := [(0, .ref 0), (1, .int a0), (2, .int a1), (3, .int a2)]) (st' := [.int (-1)]) (h2 := (83, J3, R0 p)) (by rcases hp with rfl | rfl <;> rfl) ?_
      have hg := Option.some.inj hg
      subst hg
      exact TT_ret rfl rfl
    · rw [if_neg hc5] at hg
      refine TT_zeq_f (t := 31) rfl rfl hc5 ?_
      refine TT_go 3 (pc' := 14) (lv' := [(0, .ref 0), (1, .int a0), (2, .int a1), (3, .int a2)]) (st' := [.int 200, .int 1, .int a1]) (h2 := (83, J3, R0 p)) (by rcases hp with rfl | rfl <;> rfl) ?_
      cases hq6 : g_X8_within n a1 1 200 J3 with
      | none => rw [hq6] at hg; cases hg
      | some w7 =>
        obtain ⟨r9, J8⟩ := w7
        rw [hq6] at hg
        dsimp only at hg
        refine TT_call (me' := mt_X8_within) (as := [.int a1, .int 1, .int 200]) (rest := []) (r1 := some (.int r9)) (h1 := (83, J8, R0 p)) rfl rfl (by rcases hp with rfl | rfl <;> rfl) (t_X8_within hq6) ?_
        refine TT_go 0 (pc' := 17) (lv' := [(0, .ref 0), (1, .int a0), (2, .int a1), (3, .int a2)]) (st' := [.int r9]) (h2 := (83, J8, R0 p)) (by rcases hp with rfl | rfl <;> rfl) ?_
        by_cases hc10 : r9 = 0
        · rw [if_pos hc10] at hg
          refine TT_zeq_t (t := 31) rfl rfl hc10 ?_
          refine TT_go 1 (pc' := 32) (lv' := [(0, .ref 0), (1, .int a0), (2, .int a1), (3, .int a2)]) (st' := [.int (-1)]) (h2 := (83, J8, R0 p)) (by rcases hp with rfl | rfl <;> rfl) ?_
          have hg := Option.some.inj hg
          subst hg
          exact TT_ret rfl rfl
        · rw [if_neg hc10] at hg
          refine TT_zeq_f (t := 31) rfl rfl hc10 ?_
          refine TT_go 5 (pc' := 25) (lv' := [(0, .ref 0), (1, .int a0), (2, .int a1), (3, .int a2)]) (st' := [.int (a0 - 1), .int (-1), .int a2]) (h2 := (83, J8, R0 p)) (by rcases hp with rfl | rfl <;> rfl) ?_
          cases hq11 : g_X8_within n a2 (-1) (a0 - 1) J8 with
          | none => rw [hq11] at hg; cases hg
          | some w12 =>
            obtain ⟨r14, J13⟩ := w12
            rw [hq11] at hg
            dsimp only at hg
            refine TT_call (me' := mt_X8_within) (as := [.int a2, .int (-1), .int (a0 - 1)]) (rest := []) (r1 := some (.int r14)) (h1 := (83, J13, R0 p)) rfl rfl (by rcases hp with rfl | rfl <;> rfl) (t_X8_within hq11) ?_
            refine TT_go 0 (pc' := 28) (lv' := [(0, .ref 0), (1, .int a0), (2, .int a1), (3, .int a2)]) (st' := [.int r14]) (h2 := (83, J13, R0 p)) (by rcases hp with rfl | rfl <;> rfl) ?_
            by_cases hc15 : r14 = 0
            · rw [if_pos hc15] at hg
              refine TT_zne_f (t := 33) rfl rfl hc15 ?_
              refine TT_go 1 (pc' := 32) (lv' := [(0, .ref 0), (1, .int a0), (2, .int a1), (3, .int a2)]) (st' := [.int (-1)]) (h2 := (83, J13, R0 p)) (by rcases hp with rfl | rfl <;> rfl) ?_
              have hg := Option.some.inj hg
              subst hg
              exact TT_ret rfl rfl
            · rw [if_neg hc15] at hg
              refine TT_zne_t (t := 33) rfl rfl hc15 ?_
              refine TT_go 10 (pc' := 51) (lv' := [(0, .ref 0), (1, .int a0), (2, .int a1), (3, .int a2)]) (st' := [.int a1, .int a0, .ref 33, .ref 31, .ref p, .ref 44]) (h2 := (83, J13, R0 p)) (by rcases hp with rfl | rfl <;> rfl) ?_
              cases hq16 : g_X4_search n p a0 a1 J13 with
              | none => rw [hq16] at hg; cases hg
              | some w17 =>
                obtain ⟨J18, hJ18⟩ : ∃ J, J = w17 := ⟨_, rfl⟩
                rw [← hJ18] at hq16
                rw [hq16] at hg
                dsimp only at hg
                refine TT_call (me' := mt_X4_search) (as := [.ref 44, .ref p, .ref 31, .ref 33, .int a0, .int a1]) (rest := []) (r1 := none) (h1 := (83, J18, R0 p)) rfl rfl (by rcases hp with rfl | rfl <;> rfl) (t_X4_search hp hq16) ?_
                refine TT_go 1 (pc' := 55) (lv' := [(0, .ref 0), (1, .int a0), (2, .int a1), (3, .int a2)]) (st' := [.int a2]) (h2 := (83, J18, R0 p)) (by rcases hp with rfl | rfl <;> rfl) ?_
                by_cases hc19 : 0 ≤ a2
                · rw [if_pos hc19] at hg
                  refine TT_zge_t (t := 68) rfl rfl hc19 ?_
                  refine TT_go 4 (pc' := 76) (lv' := [(0, .ref 0), (1, .int a0), (2, .int a1), (3, .int a2)]) (st' := [.int a2, .ref 46]) (h2 := (83, J18, R0 p)) (by rcases hp with rfl | rfl <;> rfl) ?_
                  by_cases hb20 : inB a2 3 = true
                  rotate_left
                  · rw [if_neg hb20] at hg; cases hg
                  rw [if_pos hb20] at hg
                  refine TT_iald (n := 3) rfl (by rcases hp with rfl | rfl <;> rfl) hb20 ?_
                  obtain ⟨x21, hx21⟩ : ∃ x : Int32, x = (J18 46 (Int32.toNatClampNeg a2)) := ⟨_, rfl⟩
                  replace hg := bnd_use hx21 hg
                  refine TT_go 0 (pc' := 77) (lv' := [(0, .ref 0), (1, .int a0), (2, .int a1), (3, .int a2)]) (st' := [.int x21]) (h2 := (83, J18, R0 p)) (by subst hx21; rcases hp with rfl | rfl <;> rfl) ?_
                  have hg := Option.some.inj hg
                  subst hg
                  exact TT_ret rfl rfl
                · rw [if_neg hc19] at hg
                  refine TT_zge_f (t := 68) rfl rfl hc19 ?_
                  refine TT_go 4 (pc' := 77) (lv' := [(0, .ref 0), (1, .int a0), (2, .int a1), (3, .int a2)]) (st' := [.int (J18 44 2)]) (h2 := (83, J18, R0 p)) (by rcases hp with rfl | rfl <;> rfl) ?_
                  have hg := Option.some.inj hg
                  subst hg
                  exact TT_ret rfl rfl
def g_X8_counted (n : Nat) (p : Nat) (a0 : Int32) (a1 : Int32) (a2 : Int32) (I : IH) : Option (Int32 × IH) :=
  match g_X8_isGlass n p a0 I with
  | none => none
  | some (r4, J3) =>
    if r4 = 0 then
      some ((-1), J3)
    else
      match g_X8_within n a1 0 20000 J3 with
      | none => none
      | some (r9, J8) =>
        if r9 = 0 then
          some ((-1), J8)
        else
          match g_X8_within n a2 0 9999 J8 with
          | none => none
          | some (r14, J13) =>
            if r14 = 0 then
              some ((-1), J13)
            else
              if (J13 40 0) < 12 then
                match g_X6_note n a0 a1 a2 J13 with
                | none => none
                | some J19 =>
                  some ((J19 40 0), J19)
              else
                some ((-3), J13)
set_option maxRecDepth 20000 in
theorem t_X8_counted {p : Nat} (hp : p = 5 ∨ p = 18) {n : Nat} {a0 : Int32} {a1 : Int32} {a2 : Int32} {I : IH} {w : Int32 × IH} (hg : g_X8_counted n p a0 a1 a2 I = some w) : TT none mt_X8_counted 0 (lv_args 0 [.ref 0, .int a0, .int a1, .int a2]) [] (83, I, R0 p) (some (.int w.1)) (83, w.2, R0 p) := by
  unfold g_X8_counted at hg
  refine TT_go 2 (pc' := 2) (lv' := [(0, .ref 0), (1, .int a0), (2, .int a1), (3, .int a2)]) (st' := [.int a0, .ref 0]) (h2 := (83, I, R0 p)) (by rcases hp with rfl | rfl <;> rfl) ?_
  cases hq1 : g_X8_isGlass n p a0 I with
  | none => rw [hq1] at hg; cases hg
  | some w2 =>
    obtain ⟨r4, J3⟩ := w2
    rw [hq1] at hg
    dsimp only at hg
    refine TT_call (me' := mt_X8_isGlass) (as := [.ref 0, .int a0]) (rest := []) (r1 := some (.int r4)) (h1 := (83, J3, R0 p)) rfl rfl (by rcases hp with rfl | rfl <;> rfl) (t_X8_isGlass hp hq1) ?_
    refine TT_go 0 (pc' := 5) (lv' := [(0, .ref 0), (1, .int a0), (2, .int a1), (3, .int a2)]) (st' := [.int r4]) (h2 := (83, J3, R0 p)) (by rcases hp with rfl | rfl <;> rfl) ?_
    by_cases hc5 : r4 = 0
    · rw [if_pos hc5] at hg
      refine TT_zeq_t (t := 30) rfl rfl hc5 ?_
      refine TT_go 1 (pc' := 31) (lv' := [(0, .ref 0), (1, .int a0), (2, .int a1), (3, .int a2)]) (st' := [.int (-1)]) (h2 := (83, J3, R0 p)) (by rcases hp with rfl | rfl <;> rfl) ?_
      have hg := Option.some.inj hg
      subst hg
      exact TT_ret rfl rfl
    · rw [if_neg hc5] at hg
      refine TT_zeq_f (t := 30) rfl rfl hc5 ?_
      refine TT_go 3 (pc' := 13) (lv' := [(0, .ref 0), (1, .int a0), (2, .int a1), (3, .int a2)]) (st' := [.int 20000, .int 0, .int a1]) (h2 := (83, J3, R0 p)) (by rcases hp with rfl | rfl <;> rfl) ?_
      cases hq6 : g_X8_within n a1 0 20000 J3 with
      | none => rw [hq6] at hg; cases hg
      | some w7 =>
        obtain ⟨r9, J8⟩ := w7
        rw [hq6] at hg
        dsimp only at hg
        refine TT_call (me' := mt_X8_within) (as := [.int a1, .int 0, .int 20000]) (rest := []) (r1 := some (.int r9)) (h1 := (83, J8, R0 p)) rfl rfl (by rcases hp with rfl | rfl <;> rfl) (t_X8_within hq6) ?_
        refine TT_go 0 (pc' := 16) (lv' := [(0, .ref 0), (1, .int a0), (2, .int a1), (3, .int a2)]) (st' := [.int r9]) (h2 := (83, J8, R0 p)) (by rcases hp with rfl | rfl <;> rfl) ?_
        by_cases hc10 : r9 = 0
        · rw [if_pos hc10] at hg
          refine TT_zeq_t (t := 30) rfl rfl hc10 ?_
          refine TT_go 1 (pc' := 31) (lv' := [(0, .ref 0), (1, .int a0), (2, .int a1), (3, .int a2)]) (st' := [.int (-1)]) (h2 := (83, J8, R0 p)) (by rcases hp with rfl | rfl <;> rfl) ?_
          have hg := Option.some.inj hg
          subst hg
          exact TT_ret rfl rfl
        · rw [if_neg hc10] at hg
          refine TT_zeq_f (t := 30) rfl rfl hc10 ?_
          refine TT_go 3 (pc' := 24) (lv' := [(0, .ref 0), (1, .int a0), (2, .int a1), (3, .int a2)]) (st' := [.int 9999, .int 0, .int a2]) (h2 := (83, J8, R0 p)) (by rcases hp with rfl | rfl <;> rfl) ?_
          cases hq11 : g_X8_within n a2 0 9999 J8 with
          | none => rw [hq11] at hg; cases hg
          | some w12 =>
            obtain ⟨r14, J13⟩ := w12
            rw [hq11] at hg
            dsimp only at hg
            refine TT_call (me' := mt_X8_within) (as := [.int a2, .int 0, .int 9999]) (rest := []) (r1 := some (.int r14)) (h1 := (83, J13, R0 p)) rfl rfl (by rcases hp with rfl | rfl <;> rfl) (t_X8_within hq11) ?_
            refine TT_go 0 (pc' := 27) (lv' := [(0, .ref 0), (1, .int a0), (2, .int a1), (3, .int a2)]) (st' := [.int r14]) (h2 := (83, J13, R0 p)) (by rcases hp with rfl | rfl <;> rfl) ?_
            by_cases hc15 : r14 = 0
            · rw [if_pos hc15] at hg
              refine TT_zne_f (t := 32) rfl rfl hc15 ?_
              refine TT_go 1 (pc' := 31) (lv' := [(0, .ref 0), (1, .int a0), (2, .int a1), (3, .int a2)]) (st' := [.int (-1)]) (h2 := (83, J13, R0 p)) (by rcases hp with rfl | rfl <;> rfl) ?_
              have hg := Option.some.inj hg
              subst hg
              exact TT_ret rfl rfl
            · rw [if_neg hc15] at hg
              refine TT_zne_t (t := 32) rfl rfl hc15 ?_
              refine TT_go 4 (pc' := 41) (lv' := [(0, .ref 0), (1, .int a0), (2, .int a1), (3, .int a2)]) (st' := [.int 12, .int (J13 40 0)]) (h2 := (83, J13, R0 p)) (by rcases hp with rfl | rfl <;> rfl) ?_
              by_cases hc16 : (J13 40 0) < 12
              · rw [if_pos hc16] at hg
                refine TT_ilt_t (t := 47) rfl rfl hc16 ?_
                refine TT_go 5 (pc' := 54) (lv' := [(0, .ref 0), (1, .int a0), (2, .int a1), (3, .int a2)]) (st' := [.int a2, .int a1, .int a0, .ref 40]) (h2 := (83, J13, R0 p)) (by rcases hp with rfl | rfl <;> rfl) ?_
                cases hq17 : g_X6_note n a0 a1 a2 J13 with
                | none => rw [hq17] at hg; cases hg
                | some w18 =>
                  obtain ⟨J19, hJ19⟩ : ∃ J, J = w18 := ⟨_, rfl⟩
                  rw [← hJ19] at hq17
                  rw [hq17] at hg
                  dsimp only at hg
                  refine TT_call (me' := mt_X6_note) (as := [.ref 40, .int a0, .int a1, .int a2]) (rest := []) (r1 := none) (h1 := (83, J19, R0 p)) rfl rfl (by rcases hp with rfl | rfl <;> rfl) (t_X6_note hq17) ?_
                  refine TT_go 3 (pc' := 64) (lv' := [(0, .ref 0), (1, .int a0), (2, .int a1), (3, .int a2)]) (st' := [.int (J19 40 0)]) (h2 := (83, J19, R0 p)) (by rcases hp with rfl | rfl <;> rfl) ?_
                  have hg := Option.some.inj hg
                  subst hg
                  exact TT_ret rfl rfl
              · rw [if_neg hc16] at hg
                refine TT_ilt_f (t := 47) rfl rfl hc16 ?_
                refine TT_go 1 (pc' := 46) (lv' := [(0, .ref 0), (1, .int a0), (2, .int a1), (3, .int a2)]) (st' := [.int (-3)]) (h2 := (83, J13, R0 p)) (by rcases hp with rfl | rfl <;> rfl) ?_
                have hg := Option.some.inj hg
                subst hg
                exact TT_ret rfl rfl
def g_X8_stolen (n : Nat) (p : Nat) (a0 : Int32) (a1 : Int32) (I : IH) : Option (Int32 × IH) :=
  match g_X8_isGlass n p a0 I with
  | none => none
  | some (r4, J3) =>
    if r4 = 0 then
      some ((-1), J3)
    else
      if inB (2 * a0) 16 = true then
        bnd (J3 ((p + 5)) (Int32.toNatClampNeg (2 * a0))) fun x7 =>
        if inB ((2 * a0) + 1) 16 = true then
          bnd (J3 ((p + 5)) (Int32.toNatClampNeg ((2 * a0) + 1))) fun x9 =>
          bnd ((x7 + x9)) fun x10 =>
          if a1 = 0 then
            match g_X6_missing n a0 x10 J3 with
            | none => none
            | some (r15, J14) =>
              some (r15, J14)
          else if a1 = 1 then
            match g_X6_till n a0 x10 J3 with
            | none => none
            | some (r20, J19) =>
              some (r20, J19)
          else if a1 = 2 then
            match g_X6_since n a0 x10 J3 with
            | none => none
            | some (r25, J24) =>
              some (r25, J24)
          else if a1 = 3 then
            match g_X6_falseOnes n a0 J3 with
            | none => none
            | some (r30, J29) =>
              some (r30, J29)
          else
            some ((-1), J3)
        else none
      else none
set_option maxRecDepth 20000 in
theorem t_X8_stolen {p : Nat} (hp : p = 5 ∨ p = 18) {n : Nat} {a0 : Int32} {a1 : Int32} {I : IH} {w : Int32 × IH} (hg : g_X8_stolen n p a0 a1 I = some w) : TT none mt_X8_stolen 0 (lv_args 0 [.ref 0, .int a0, .int a1]) [] (83, I, R0 p) (some (.int w.1)) (83, w.2, R0 p) := by
  unfold g_X8_stolen at hg
  refine TT_go 2 (pc' := 2) (lv' := [(0, .ref 0), (1, .int a0), (2, .int a1)]) (st' := [.int a0, .ref 0]) (h2 := (83, I, R0 p)) (by rcases hp with rfl | rfl <;> rfl) ?_
  cases hq1 : g_X8_isGlass n p a0 I with
  | none => rw [hq1] at hg; cases hg
  | some w2 =>
    obtain ⟨r4, J3⟩ := w2
    rw [hq1] at hg
    dsimp only at hg
    refine TT_call (me' := mt_X8_isGlass) (as := [.ref 0, .int a0]) (rest := []) (r1 := some (.int r4)) (h1 := (83, J3, R0 p)) rfl rfl (by rcases hp with rfl | rfl <;> rfl) (t_X8_isGlass hp hq1) ?_
    refine TT_go 0 (pc' := 5) (lv' := [(0, .ref 0), (1, .int a0), (2, .int a1)]) (st' := [.int r4]) (h2 := (83, J3, R0 p)) (by rcases hp with rfl | rfl <;> rfl) ?_
    by_cases hc5 : r4 = 0
    · rw [if_pos hc5] at hg
      refine TT_zne_f (t := 10) rfl rfl hc5 ?_
      refine TT_go 1 (pc' := 9) (lv' := [(0, .ref 0), (1, .int a0), (2, .int a1)]) (st' := [.int (-1)]) (h2 := (83, J3, R0 p)) (by rcases hp with rfl | rfl <;> rfl) ?_
      have hg := Option.some.inj hg
      subst hg
      exact TT_ret rfl rfl
    · rw [if_neg hc5] at hg
      refine TT_zne_t (t := 10) rfl rfl hc5 ?_
      refine TT_go 6 (pc' := 20) (lv' := [(0, .ref 0), (1, .int a0), (2, .int a1)]) (st' := [.int (2 * a0), .ref (p + 5)]) (h2 := (83, J3, R0 p)) (by rcases hp with rfl | rfl <;> rfl) ?_
      by_cases hb6 : inB (2 * a0) 16 = true
      rotate_left
      · rw [if_neg hb6] at hg; cases hg
      rw [if_pos hb6] at hg
      refine TT_iald (n := 16) rfl (by rcases hp with rfl | rfl <;> rfl) hb6 ?_
      obtain ⟨x7, hx7⟩ : ∃ x : Int32, x = (J3 ((p + 5)) (Int32.toNatClampNeg (2 * a0))) := ⟨_, rfl⟩
      replace hg := bnd_use hx7 hg
      refine TT_go 0 (pc' := 21) (lv' := [(0, .ref 0), (1, .int a0), (2, .int a1)]) (st' := [.int x7]) (h2 := (83, J3, R0 p)) (by subst hx7; rcases hp with rfl | rfl <;> rfl) ?_
      refine TT_go 8 (pc' := 33) (lv' := [(0, .ref 0), (1, .int a0), (2, .int a1)]) (st' := [.int ((2 * a0) + 1), .ref (p + 5), .int x7]) (h2 := (83, J3, R0 p)) (by rcases hp with rfl | rfl <;> rfl) ?_
      by_cases hb8 : inB ((2 * a0) + 1) 16 = true
      rotate_left
      · rw [if_neg hb8] at hg; cases hg
      rw [if_pos hb8] at hg
      refine TT_iald (n := 16) rfl (by rcases hp with rfl | rfl <;> rfl) hb8 ?_
      obtain ⟨x9, hx9⟩ : ∃ x : Int32, x = (J3 ((p + 5)) (Int32.toNatClampNeg ((2 * a0) + 1))) := ⟨_, rfl⟩
      replace hg := bnd_use hx9 hg
      refine TT_go 0 (pc' := 34) (lv' := [(0, .ref 0), (1, .int a0), (2, .int a1)]) (st' := [.int x9, .int x7]) (h2 := (83, J3, R0 p)) (by subst hx9; rcases hp with rfl | rfl <;> rfl) ?_
      obtain ⟨x10, hx10⟩ : ∃ x : Int32, x = ((x7 + x9)) := ⟨_, rfl⟩
      replace hg := bnd_use hx10 hg
      refine TT_go 2 (pc' := 36) (lv' := [(3, .int x10), (0, .ref 0), (1, .int a0), (2, .int a1)]) (st' := []) (h2 := (83, J3, R0 p)) (by subst hx10; rcases hp with rfl | rfl <;> rfl) ?_
      refine TT_go 1 (pc' := 37) (lv' := [(3, .int x10), (0, .ref 0), (1, .int a0), (2, .int a1)]) (st' := [.int a1]) (h2 := (83, J3, R0 p)) (by rcases hp with rfl | rfl <;> rfl) ?_
      by_cases hc11 : a1 = 0
      · rw [if_pos hc11] at hg
        refine TT_tin (t := 68) (off := 31) rfl (by rw [hc11]; decide) (by rw [hc11]; rfl) rfl ?_
        refine TT_go 4 (pc' := 74) (lv' := [(3, .int x10), (0, .ref 0), (1, .int a0), (2, .int a1)]) (st' := [.int x10, .int a0, .ref 40]) (h2 := (83, J3, R0 p)) (by rcases hp with rfl | rfl <;> rfl) ?_
        cases hq12 : g_X6_missing n a0 x10 J3 with
        | none => rw [hq12] at hg; cases hg
        | some w13 =>
          obtain ⟨r15, J14⟩ := w13
          rw [hq12] at hg
          dsimp only at hg
          refine TT_call (me' := mt_X6_missing) (as := [.ref 40, .int a0, .int x10]) (rest := []) (r1 := some (.int r15)) (h1 := (83, J14, R0 p)) rfl rfl (by rcases hp with rfl | rfl <;> rfl) (t_X6_missing hq12) ?_
          refine TT_go 0 (pc' := 77) (lv' := [(3, .int x10), (0, .ref 0), (1, .int a0), (2, .int a1)]) (st' := [.int r15]) (h2 := (83, J14, R0 p)) (by rcases hp with rfl | rfl <;> rfl) ?_
          have hg := Option.some.inj hg
          subst hg
          exact TT_ret rfl rfl
      rw [if_neg hc11] at hg
      by_cases hc16 : a1 = 1
      · rw [if_pos hc16] at hg
        refine TT_tin (t := 78) (off := 41) rfl (by rw [hc16]; decide) (by rw [hc16]; rfl) rfl ?_
        refine TT_go 4 (pc' := 84) (lv' := [(3, .int x10), (0, .ref 0), (1, .int a0), (2, .int a1)]) (st' := [.int x10, .int a0, .ref 40]) (h2 := (83, J3, R0 p)) (by rcases hp with rfl | rfl <;> rfl) ?_
        cases hq17 : g_X6_till n a0 x10 J3 with
        | none => rw [hq17] at hg; cases hg
        | some w18 =>
          obtain ⟨r20, J19⟩ := w18
          rw [hq17] at hg
          dsimp only at hg
          refine TT_call (me' := mt_X6_till) (as := [.ref 40, .int a0, .int x10]) (rest := []) (r1 := some (.int r20)) (h1 := (83, J19, R0 p)) rfl rfl (by rcases hp with rfl | rfl <;> rfl) (t_X6_till hq17) ?_
          refine TT_go 0 (pc' := 87) (lv' := [(3, .int x10), (0, .ref 0), (1, .int a0), (2, .int a1)]) (st' := [.int r20]) (h2 := (83, J19, R0 p)) (by rcases hp with rfl | rfl <;> rfl) ?_
          have hg := Option.some.inj hg
          subst hg
          exact TT_ret rfl rfl
      rw [if_neg hc16] at hg
      by_cases hc21 : a1 = 2
      · rw [if_pos hc21] at hg
        refine TT_tin (t := 88) (off := 51) rfl (by rw [hc21]; decide) (by rw [hc21]; rfl) rfl ?_
        refine TT_go 4 (pc' := 94) (lv' := [(3, .int x10), (0, .ref 0), (1, .int a0), (2, .int a1)]) (st' := [.int x10, .int a0, .ref 40]) (h2 := (83, J3, R0 p)) (by rcases hp with rfl | rfl <;> rfl) ?_
        cases hq22 : g_X6_since n a0 x10 J3 with
        | none => rw [hq22] at hg; cases hg
        | some w23 =>
          obtain ⟨r25, J24⟩ := w23
          rw [hq22] at hg
          dsimp only at hg
          refine TT_call (me' := mt_X6_since) (as := [.ref 40, .int a0, .int x10]) (rest := []) (r1 := some (.int r25)) (h1 := (83, J24, R0 p)) rfl rfl (by rcases hp with rfl | rfl <;> rfl) (t_X6_since hq22) ?_
          refine TT_go 0 (pc' := 97) (lv' := [(3, .int x10), (0, .ref 0), (1, .int a0), (2, .int a1)]) (st' := [.int r25]) (h2 := (83, J24, R0 p)) (by rcases hp with rfl | rfl <;> rfl) ?_
          have hg := Option.some.inj hg
          subst hg
          exact TT_ret rfl rfl
      rw [if_neg hc21] at hg
      by_cases hc26 : a1 = 3
      · rw [if_pos hc26] at hg
        refine TT_tin (t := 98) (off := 61) rfl (by rw [hc26]; decide) (by rw [hc26]; rfl) rfl ?_
        refine TT_go 3 (pc' := 103) (lv' := [(3, .int x10), (0, .ref 0), (1, .int a0), (2, .int a1)]) (st' := [.int a0, .ref 40]) (h2 := (83, J3, R0 p)) (by rcases hp with rfl | rfl <;> rfl) ?_
        cases hq27 : g_X6_falseOnes n a0 J3 with
        | none => rw [hq27] at hg; cases hg
        | some w28 =>
          obtain ⟨r30, J29⟩ := w28
          rw [hq27] at hg
          dsimp only at hg
          refine TT_call (me' := mt_X6_falseOnes) (as := [.ref 40, .int a0]) (rest := []) (r1 := some (.int r30)) (h1 := (83, J29, R0 p)) rfl rfl (by rcases hp with rfl | rfl <;> rfl) (t_X6_falseOnes hq27) ?_
          refine TT_go 0 (pc' := 106) (lv' := [(3, .int x10), (0, .ref 0), (1, .int a0), (2, .int a1)]) (st' := [.int r30]) (h2 := (83, J29, R0 p)) (by rcases hp with rfl | rfl <;> rfl) ?_
          have hg := Option.some.inj hg
          subst hg
          exact TT_ret rfl rfl
      rw [if_neg hc26] at hg
      refine TT_tout (t := 107) rfl (by have e0 := lv_neT (a := 0) hc11 (by decide); have e1 := lv_neT (a := 1) hc16 (by decide); have e2 := lv_neT (a := 2) hc21 (by decide); have e3 := lv_neT (a := 3) hc26 (by decide); omega) rfl ?_
      refine TT_go 1 (pc' := 108) (lv' := [(3, .int x10), (0, .ref 0), (1, .int a0), (2, .int a1)]) (st' := [.int (-1)]) (h2 := (83, J3, R0 p)) (by rcases hp with rfl | rfl <;> rfl) ?_
      have hg := Option.some.inj hg
      subst hg
      exact TT_ret rfl rfl
def g_X8_comesFirst (n : Nat) (p : Nat) (a0 : Int32) (a1 : Int32) (a2 : Int32) (a3 : Int32) (I : IH) : Option (Int32 × IH) :=
  if a3 ≤ 0 then
    some (0, I)
  else
    if inB a0 6 = true then
      bnd (I 54 (Int32.toNatClampNeg a0)) fun x3 =>
      if x3 = 0 then
        some (0, I)
      else
        if inB a0 6 = true then
          bnd (I 54 (Int32.toNatClampNeg a0)) fun x6 =>
          if a3 = 0 then none else
          bnd (((a2 * x6) - (a2 * x6) / a3 * a3)) fun x8 =>
          if inB a1 6 = true then
            bnd (I 54 (Int32.toNatClampNeg a1)) fun x10 =>
            if a3 = 0 then none else
            bnd (((a2 * x10) - (a2 * x10) / a3 * a3)) fun x12 =>
            if x12 < x8 then
              some (1, I)
            else
              if x8 = x12 then
                if a1 ≤ a0 then
                  some (0, I)
                else
                  some (1, I)
              else
                some (0, I)
          else none
        else none
    else none
set_option maxRecDepth 20000 in
theorem t_X8_comesFirst {p : Nat} (hp : p = 5 ∨ p = 18) {n : Nat} {a0 : Int32} {a1 : Int32} {a2 : Int32} {a3 : Int32} {I : IH} {w : Int32 × IH} (hg : g_X8_comesFirst n p a0 a1 a2 a3 I = some w) : TT none mt_X8_comesFirst 0 (lv_args 0 [.ref 0, .int a0, .int a1, .int a2, .int a3]) [] (83, I, R0 p) (some (.int w.1)) (83, w.2, R0 p) := by
  unfold g_X8_comesFirst at hg
  refine TT_go 1 (pc' := 2) (lv' := [(0, .ref 0), (1, .int a0), (2, .int a1), (3, .int a2), (4, .int a3)]) (st' := [.int a3]) (h2 := (83, I, R0 p)) (by rcases hp with rfl | rfl <;> rfl) ?_
  by_cases hc1 : a3 ≤ 0
  · rw [if_pos hc1] at hg
    refine TT_zle_t (t := 14) rfl rfl hc1 ?_
    refine TT_go 1 (pc' := 15) (lv' := [(0, .ref 0), (1, .int a0), (2, .int a1), (3, .int a2), (4, .int a3)]) (st' := [.int 0]) (h2 := (83, I, R0 p)) (by rcases hp with rfl | rfl <;> rfl) ?_
    have hg := Option.some.inj hg
    subst hg
    exact TT_ret rfl rfl
  · rw [if_neg hc1] at hg
    refine TT_zle_f (t := 14) rfl rfl hc1 ?_
    refine TT_go 3 (pc' := 10) (lv' := [(0, .ref 0), (1, .int a0), (2, .int a1), (3, .int a2), (4, .int a3)]) (st' := [.int a0, .ref 54]) (h2 := (83, I, R0 p)) (by rcases hp with rfl | rfl <;> rfl) ?_
    by_cases hb2 : inB a0 6 = true
    rotate_left
    · rw [if_neg hb2] at hg; cases hg
    rw [if_pos hb2] at hg
    refine TT_iald (n := 6) rfl (by rcases hp with rfl | rfl <;> rfl) hb2 ?_
    obtain ⟨x3, hx3⟩ : ∃ x : Int32, x = (I 54 (Int32.toNatClampNeg a0)) := ⟨_, rfl⟩
    replace hg := bnd_use hx3 hg
    refine TT_go 0 (pc' := 11) (lv' := [(0, .ref 0), (1, .int a0), (2, .int a1), (3, .int a2), (4, .int a3)]) (st' := [.int x3]) (h2 := (83, I, R0 p)) (by subst hx3; rcases hp with rfl | rfl <;> rfl) ?_
    by_cases hc4 : x3 = 0
    · rw [if_pos hc4] at hg
      refine TT_zne_f (t := 16) rfl rfl hc4 ?_
      refine TT_go 1 (pc' := 15) (lv' := [(0, .ref 0), (1, .int a0), (2, .int a1), (3, .int a2), (4, .int a3)]) (st' := [.int 0]) (h2 := (83, I, R0 p)) (by rcases hp with rfl | rfl <;> rfl) ?_
      have hg := Option.some.inj hg
      subst hg
      exact TT_ret rfl rfl
    · rw [if_neg hc4] at hg
      refine TT_zne_t (t := 16) rfl rfl hc4 ?_
      refine TT_go 4 (pc' := 22) (lv' := [(0, .ref 0), (1, .int a0), (2, .int a1), (3, .int a2), (4, .int a3)]) (st' := [.int a0, .ref 54, .int a2]) (h2 := (83, I, R0 p)) (by rcases hp with rfl | rfl <;> rfl) ?_
      by_cases hb5 : inB a0 6 = true
      rotate_left
      · rw [if_neg hb5] at hg; cases hg
      rw [if_pos hb5] at hg
      refine TT_iald (n := 6) rfl (by rcases hp with rfl | rfl <;> rfl) hb5 ?_
      obtain ⟨x6, hx6⟩ : ∃ x : Int32, x = (I 54 (Int32.toNatClampNeg a0)) := ⟨_, rfl⟩
      replace hg := bnd_use hx6 hg
      refine TT_go 0 (pc' := 23) (lv' := [(0, .ref 0), (1, .int a0), (2, .int a1), (3, .int a2), (4, .int a3)]) (st' := [.int x6, .int a2]) (h2 := (83, I, R0 p)) (by subst hx6; rcases hp with rfl | rfl <;> rfl) ?_
      refine TT_go 2 (pc' := 26) (lv' := [(0, .ref 0), (1, .int a0), (2, .int a1), (3, .int a2), (4, .int a3)]) (st' := [.int a3, .int (a2 * x6)]) (h2 := (83, I, R0 p)) (by rcases hp with rfl | rfl <;> rfl) ?_
      by_cases hc7 : a3 = 0
      · rw [if_pos hc7] at hg; cases hg
      rw [if_neg hc7] at hg
      refine TT_irem rfl hc7 ?_
      obtain ⟨x8, hx8⟩ : ∃ x : Int32, x = (((a2 * x6) - (a2 * x6) / a3 * a3)) := ⟨_, rfl⟩
      replace hg := bnd_use hx8 hg
      refine TT_go 1 (pc' := 29) (lv' := [(5, .int x8), (0, .ref 0), (1, .int a0), (2, .int a1), (3, .int a2), (4, .int a3)]) (st' := []) (h2 := (83, I, R0 p)) (by subst hx8; rcases hp with rfl | rfl <;> rfl) ?_
      refine TT_go 4 (pc' := 35) (lv' := [(5, .int x8), (0, .ref 0), (1, .int a0), (2, .int a1), (3, .int a2), (4, .int a3)]) (st' := [.int a1, .ref 54, .int a2]) (h2 := (83, I, R0 p)) (by rcases hp with rfl | rfl <;> rfl) ?_
      by_cases hb9 : inB a1 6 = true
      rotate_left
      · rw [if_neg hb9] at hg; cases hg
      rw [if_pos hb9] at hg
      refine TT_iald (n := 6) rfl (by rcases hp with rfl | rfl <;> rfl) hb9 ?_
      obtain ⟨x10, hx10⟩ : ∃ x : Int32, x = (I 54 (Int32.toNatClampNeg a1)) := ⟨_, rfl⟩
      replace hg := bnd_use hx10 hg
      refine TT_go 0 (pc' := 36) (lv' := [(5, .int x8), (0, .ref 0), (1, .int a0), (2, .int a1), (3, .int a2), (4, .int a3)]) (st' := [.int x10, .int a2]) (h2 := (83, I, R0 p)) (by subst hx10; rcases hp with rfl | rfl <;> rfl) ?_
      refine TT_go 2 (pc' := 39) (lv' := [(5, .int x8), (0, .ref 0), (1, .int a0), (2, .int a1), (3, .int a2), (4, .int a3)]) (st' := [.int a3, .int (a2 * x10)]) (h2 := (83, I, R0 p)) (by rcases hp with rfl | rfl <;> rfl) ?_
      by_cases hc11 : a3 = 0
      · rw [if_pos hc11] at hg; cases hg
      rw [if_neg hc11] at hg
      refine TT_irem rfl hc11 ?_
      obtain ⟨x12, hx12⟩ : ∃ x : Int32, x = (((a2 * x10) - (a2 * x10) / a3 * a3)) := ⟨_, rfl⟩
      replace hg := bnd_use hx12 hg
      refine TT_go 1 (pc' := 42) (lv' := [(6, .int x12), (5, .int x8), (0, .ref 0), (1, .int a0), (2, .int a1), (3, .int a2), (4, .int a3)]) (st' := []) (h2 := (83, I, R0 p)) (by subst hx12; rcases hp with rfl | rfl <;> rfl) ?_
      refine TT_go 2 (pc' := 46) (lv' := [(6, .int x12), (5, .int x8), (0, .ref 0), (1, .int a0), (2, .int a1), (3, .int a2), (4, .int a3)]) (st' := [.int x12, .int x8]) (h2 := (83, I, R0 p)) (by rcases hp with rfl | rfl <;> rfl) ?_
      by_cases hc13 : x12 < x8
      · rw [if_pos hc13] at hg
        refine TT_igt_t (t := 61) rfl rfl hc13 ?_
        refine TT_go 2 (pc' := 66) (lv' := [(6, .int x12), (5, .int x8), (0, .ref 0), (1, .int a0), (2, .int a1), (3, .int a2), (4, .int a3)]) (st' := [.int 1]) (h2 := (83, I, R0 p)) (by rcases hp with rfl | rfl <;> rfl) ?_
        have hg := Option.some.inj hg
        subst hg
        exact TT_ret rfl rfl
      · rw [if_neg hc13] at hg
        refine TT_igt_f (t := 61) rfl rfl hc13 ?_
        refine TT_go 2 (pc' := 53) (lv' := [(6, .int x12), (5, .int x8), (0, .ref 0), (1, .int a0), (2, .int a1), (3, .int a2), (4, .int a3)]) (st' := [.int x12, .int x8]) (h2 := (83, I, R0 p)) (by rcases hp with rfl | rfl <;> rfl) ?_
        by_cases hc14 : x8 = x12
        · rw [if_pos hc14] at hg
          refine TT_ine_f (t := 65) rfl rfl hc14 ?_
          refine TT_go 2 (pc' := 58) (lv' := [(6, .int x12), (5, .int x8), (0, .ref 0), (1, .int a0), (2, .int a1), (3, .int a2), (4, .int a3)]) (st' := [.int a1, .int a0]) (h2 := (83, I, R0 p)) (by rcases hp with rfl | rfl <;> rfl) ?_
          by_cases hc15 : a1 ≤ a0
          · rw [if_pos hc15] at hg
            refine TT_ige_t (t := 65) rfl rfl hc15 ?_
            refine TT_go 1 (pc' := 66) (lv' := [(6, .int x12), (5, .int x8), (0, .ref 0), (1, .int a0), (2, .int a1), (3, .int a2), (4, .int a3)]) (st' := [.int 0]) (h2 := (83, I, R0 p)) (by rcases hp with rfl | rfl <;> rfl) ?_
            have hg := Option.some.inj hg
            subst hg
            exact TT_ret rfl rfl
          · rw [if_neg hc15] at hg
            refine TT_ige_f (t := 65) rfl rfl hc15 ?_
            refine TT_go 2 (pc' := 66) (lv' := [(6, .int x12), (5, .int x8), (0, .ref 0), (1, .int a0), (2, .int a1), (3, .int a2), (4, .int a3)]) (st' := [.int 1]) (h2 := (83, I, R0 p)) (by rcases hp with rfl | rfl <;> rfl) ?_
            have hg := Option.some.inj hg
            subst hg
            exact TT_ret rfl rfl
        · rw [if_neg hc14] at hg
          refine TT_ine_t (t := 65) rfl rfl hc14 ?_
          refine TT_go 1 (pc' := 66) (lv' := [(6, .int x12), (5, .int x8), (0, .ref 0), (1, .int a0), (2, .int a1), (3, .int a2), (4, .int a3)]) (st' := [.int 0]) (h2 := (83, I, R0 p)) (by rcases hp with rfl | rfl <;> rfl) ?_
          have hg := Option.some.inj hg
          subst hg
          exact TT_ret rfl rfl
def g_X8_split_122 (n : Nat) (p : Nat) (t0 : Int32) (t1 : Int32) (I : IH) : Option (Int32 × IH) :=
  some ((t1 + t0), I)
set_option maxRecDepth 20000 in
theorem t_X8_split_122 {p : Nat} (hp : p = 5 ∨ p = 18) {n : Nat} {t0 : Int32} {t1 : Int32} {I : IH} {w : Int32 × IH} (hg : g_X8_split_122 n p t0 t1 I = some w) : TT none mt_X8_split 122 [] [.int t0, .int t1] (83, I, R0 p) (some (.int w.1)) (83, w.2, R0 p) := by
  unfold g_X8_split_122 at hg
  refine TT_go 1 (pc' := 123) (lv' := []) (st' := [.int (t1 + t0)]) (h2 := (83, I, R0 p)) (by rcases hp with rfl | rfl <;> rfl) ?_
  have hg := Option.some.inj hg
  subst hg
  exact TT_ret rfl rfl
def g_X8_split_94 (n : Nat) (p : Nat) (k56 : Int32 → Int32 → Int32 → Int32 → Int32 → Int32 → IH → Option (Int32 × IH)) (v1 : Int32) (v2 : Int32) (v3 : Int32) (v4 : Int32) (v5 : Int32) (v6 : Int32) (I : IH) : Option (Int32 × IH) :=
  bnd (v6 + 1) fun x33 =>
  k56 v1 v2 v3 v4 v5 x33 I
set_option maxRecDepth 20000 in
theorem t_X8_split_94 {p : Nat} (hp : p = 5 ∨ p = 18) {n : Nat} {k56 : Int32 → Int32 → Int32 → Int32 → Int32 → Int32 → IH → Option (Int32 × IH)} (hk56 : ∀ (v1 : Int32) (v2 : Int32) (v3 : Int32) (v4 : Int32) (v5 : Int32) (v6 : Int32) (I : IH) (w : Int32 × IH), k56 v1 v2 v3 v4 v5 v6 I = some w → TT none mt_X8_split 56 [(0, .ref 0), (1, .int v1), (2, .int v2), (3, .int v3), (4, .int v4), (5, .int v5), (6, .int v6)] [] (83, I, R0 p) (some (.int w.1)) (83, w.2, R0 p)) {v1 : Int32} {v2 : Int32} {v3 : Int32} {v4 : Int32} {v5 : Int32} {v6 : Int32} {I : IH} {w : Int32 × IH} (hg : g_X8_split_94 n p k56 v1 v2 v3 v4 v5 v6 I = some w) : TT none mt_X8_split 94 [(0, .ref 0), (1, .int v1), (2, .int v2), (3, .int v3), (4, .int v4), (5, .int v5), (6, .int v6)] [] (83, I, R0 p) (some (.int w.1)) (83, w.2, R0 p) := by
  unfold g_X8_split_94 at hg
  obtain ⟨x33, hx33⟩ : ∃ x : Int32, x = (v6 + 1) := ⟨_, rfl⟩
  replace hg := bnd_use hx33 hg
  refine TT_go 1 (pc' := 97) (lv' := [(6, .int x33), (0, .ref 0), (1, .int v1), (2, .int v2), (3, .int v3), (4, .int v4), (5, .int v5)]) (st' := []) (h2 := (83, I, R0 p)) (by subst hx33; rcases hp with rfl | rfl <;> rfl) ?_
  refine TT_go 1 (pc' := 56) (lv' := [(6, .int x33), (0, .ref 0), (1, .int v1), (2, .int v2), (3, .int v3), (4, .int v4), (5, .int v5)]) (st' := []) (h2 := (83, I, R0 p)) (by rcases hp with rfl | rfl <;> rfl) ?_
  refine TT_sub (lv2 := [(0, .ref 0), (1, .int v1), (2, .int v2), (3, .int v3), (4, .int v4), (5, .int v5), (6, .int x33)]) rfl rfl ⟨rfl, rfl, rfl, rfl, rfl, rfl, rfl, trivial⟩ ?_
  exact hk56 v1 v2 v3 v4 v5 x33 _ _ hg
def g_X8_split_56 (p : Nat) : Nat → Int32 → Int32 → Int32 → Int32 → Int32 → Int32 → IH → Option (Int32 × IH)
  | 0, _, _, _, _, _, _, _ => none
  | n + 1, v1, v2, v3, v4, v5, v6, I =>
    if 6 ≤ v6 then
      if inB v2 6 = true then
        bnd (I 54 (Int32.toNatClampNeg v2)) fun x21 =>
        if v3 = 0 then none else
        if v4 ≤ v5 then
          g_X8_split_122 n p 0 (((v1 * x21) / v3)) I
        else
          g_X8_split_122 n p 1 (((v1 * x21) / v3)) I
      else none
    else
      if inB v6 6 = true then
        bnd (I 54 (Int32.toNatClampNeg v6)) fun x25 =>
        if v3 = 0 then none else
        bnd ((v4 - ((v1 * x25) / v3))) fun x27 =>
        match g_X8_comesFirst n p v6 v2 v1 v3 I with
        | none => none
        | some (r31, J30) =>
          if r31 = 0 then
            g_X8_split_94 n p (g_X8_split_56 p n) v1 v2 v3 x27 v5 v6 J30
          else
            bnd (v5 + 1) fun x34 =>
            g_X8_split_94 n p (g_X8_split_56 p n) v1 v2 v3 x27 x34 v6 J30
      else none
set_option maxRecDepth 20000 in
theorem t_X8_split_56 {p : Nat} (hp : p = 5 ∨ p = 18) : ∀ (n : Nat) (v1 : Int32) (v2 : Int32) (v3 : Int32) (v4 : Int32) (v5 : Int32) (v6 : Int32) (I : IH) (w : Int32 × IH), g_X8_split_56 p n v1 v2 v3 v4 v5 v6 I = some w → TT none mt_X8_split 56 [(0, .ref 0), (1, .int v1), (2, .int v2), (3, .int v3), (4, .int v4), (5, .int v5), (6, .int v6)] [] (83, I, R0 p) (some (.int w.1)) (83, w.2, R0 p) := by
  intro n
  induction n with
  | zero => intro v1 v2 v3 v4 v5 v6 I w hg; cases hg
  | succ n ih =>
    intro v1 v2 v3 v4 v5 v6 I w hg
    unfold g_X8_split_56 at hg
    refine TT_go 2 (pc' := 60) (lv' := [(0, .ref 0), (1, .int v1), (2, .int v2), (3, .int v3), (4, .int v4), (5, .int v5), (6, .int v6)]) (st' := [.int 6, .int v6]) (h2 := (83, I, R0 p)) (by rcases hp with rfl | rfl <;> rfl) ?_
    by_cases hc19 : 6 ≤ v6
    · rw [if_pos hc19] at hg
      refine TT_ige_t (t := 100) rfl rfl hc19 ?_
      refine TT_go 4 (pc' := 106) (lv' := [(0, .ref 0), (1, .int v1), (2, .int v2), (3, .int v3), (4, .int v4), (5, .int v5), (6, .int v6)]) (st' := [.int v2, .ref 54, .int v1]) (h2 := (83, I, R0 p)) (by rcases hp with rfl | rfl <;> rfl) ?_
      by_cases hb20 : inB v2 6 = true
      rotate_left
      · rw [if_neg hb20] at hg; cases hg
      rw [if_pos hb20] at hg
      refine TT_iald (n := 6) rfl (by rcases hp with rfl | rfl <;> rfl) hb20 ?_
      obtain ⟨x21, hx21⟩ : ∃ x : Int32, x = (I 54 (Int32.toNatClampNeg v2)) := ⟨_, rfl⟩
      replace hg := bnd_use hx21 hg
      refine TT_go 0 (pc' := 107) (lv' := [(0, .ref 0), (1, .int v1), (2, .int v2), (3, .int v3), (4, .int v4), (5, .int v5), (6, .int v6)]) (st' := [.int x21, .int v1]) (h2 := (83, I, R0 p)) (by subst hx21; rcases hp with rfl | rfl <;> rfl) ?_
      refine TT_go 2 (pc' := 109) (lv' := [(0, .ref 0), (1, .int v1), (2, .int v2), (3, .int v3), (4, .int v4), (5, .int v5), (6, .int v6)]) (st' := [.int v3, .int (v1 * x21)]) (h2 := (83, I, R0 p)) (by rcases hp with rfl | rfl <;> rfl) ?_
      by_cases hc22 : v3 = 0
      · rw [if_pos hc22] at hg; cases hg
      rw [if_neg hc22] at hg
      refine TT_idiv rfl hc22 ?_
      refine TT_go 2 (pc' := 114) (lv' := [(0, .ref 0), (1, .int v1), (2, .int v2), (3, .int v3), (4, .int v4), (5, .int v5), (6, .int v6)]) (st' := [.int v4, .int v5, .int ((v1 * x21) / v3)]) (h2 := (83, I, R0 p)) (by rcases hp with rfl | rfl <;> rfl) ?_
      by_cases hc23 : v4 ≤ v5
      · rw [if_pos hc23] at hg
        refine TT_ige_t (t := 121) rfl rfl hc23 ?_
        refine TT_go 1 (pc' := 122) (lv' := [(0, .ref 0), (1, .int v1), (2, .int v2), (3, .int v3), (4, .int v4), (5, .int v5), (6, .int v6)]) (st' := [.int 0, .int ((v1 * x21) / v3)]) (h2 := (83, I, R0 p)) (by rcases hp with rfl | rfl <;> rfl) ?_
        refine TT_sub (lv2 := []) rfl rfl trivial ?_
        exact t_X8_split_122 hp hg
      · rw [if_neg hc23] at hg
        refine TT_ige_f (t := 121) rfl rfl hc23 ?_
        refine TT_go 2 (pc' := 122) (lv' := [(0, .ref 0), (1, .int v1), (2, .int v2), (3, .int v3), (4, .int v4), (5, .int v5), (6, .int v6)]) (st' := [.int 1, .int ((v1 * x21) / v3)]) (h2 := (83, I, R0 p)) (by rcases hp with rfl | rfl <;> rfl) ?_
        refine TT_sub (lv2 := []) rfl rfl trivial ?_
        exact t_X8_split_122 hp hg
    · rw [if_neg hc19] at hg
      refine TT_ige_f (t := 100) rfl rfl hc19 ?_
      refine TT_go 5 (pc' := 72) (lv' := [(0, .ref 0), (1, .int v1), (2, .int v2), (3, .int v3), (4, .int v4), (5, .int v5), (6, .int v6)]) (st' := [.int v6, .ref 54, .int v1, .int v4]) (h2 := (83, I, R0 p)) (by rcases hp with rfl | rfl <;> rfl) ?_
      by_cases hb24 : inB v6 6 = true
      rotate_left
      · rw [if_neg hb24] at hg; cases hg
      rw [if_pos hb24] at hg
      refine TT_iald (n := 6) rfl (by rcases hp with rfl | rfl <;> rfl) hb24 ?_
      obtain ⟨x25, hx25⟩ : ∃ x : Int32, x = (I 54 (Int32.toNatClampNeg v6)) := ⟨_, rfl⟩
      replace hg := bnd_use hx25 hg
      refine TT_go 0 (pc' := 73) (lv' := [(0, .ref 0), (1, .int v1), (2, .int v2), (3, .int v3), (4, .int v4), (5, .int v5), (6, .int v6)]) (st' := [.int x25, .int v1, .int v4]) (h2 := (83, I, R0 p)) (by subst hx25; rcases hp with rfl | rfl <;> rfl) ?_
      refine TT_go 2 (pc' := 75) (lv' := [(0, .ref 0), (1, .int v1), (2, .int v2), (3, .int v3), (4, .int v4), (5, .int v5), (6, .int v6)]) (st' := [.int v3, .int (v1 * x25), .int v4]) (h2 := (83, I, R0 p)) (by rcases hp with rfl | rfl <;> rfl) ?_
      by_cases hc26 : v3 = 0
      · rw [if_pos hc26] at hg; cases hg
      rw [if_neg hc26] at hg
      refine TT_idiv rfl hc26 ?_
      obtain ⟨x27, hx27⟩ : ∃ x : Int32, x = ((v4 - ((v1 * x25) / v3))) := ⟨_, rfl⟩
      replace hg := bnd_use hx27 hg
      refine TT_go 2 (pc' := 79) (lv' := [(4, .int x27), (0, .ref 0), (1, .int v1), (2, .int v2), (3, .int v3), (5, .int v5), (6, .int v6)]) (st' := []) (h2 := (83, I, R0 p)) (by subst hx27; rcases hp with rfl | rfl <;> rfl) ?_
      refine TT_go 5 (pc' := 85) (lv' := [(4, .int x27), (0, .ref 0), (1, .int v1), (2, .int v2), (3, .int v3), (5, .int v5), (6, .int v6)]) (st' := [.int v3, .int v1, .int v2, .int v6, .ref 0]) (h2 := (83, I, R0 p)) (by rcases hp with rfl | rfl <;> rfl) ?_
      cases hq28 : g_X8_comesFirst n p v6 v2 v1 v3 I with
      | none => rw [hq28] at hg; cases hg
      | some w29 =>
        obtain ⟨r31, J30⟩ := w29
        rw [hq28] at hg
        dsimp only at hg
        refine TT_call (me' := mt_X8_comesFirst) (as := [.ref 0, .int v6, .int v2, .int v1, .int v3]) (rest := []) (r1 := some (.int r31)) (h1 := (83, J30, R0 p)) rfl rfl (by rcases hp with rfl | rfl <;> rfl) (t_X8_comesFirst hp hq28) ?_
        refine TT_go 0 (pc' := 88) (lv' := [(4, .int x27), (0, .ref 0), (1, .int v1), (2, .int v2), (3, .int v3), (5, .int v5), (6, .int v6)]) (st' := [.int r31]) (h2 := (83, J30, R0 p)) (by rcases hp with rfl | rfl <;> rfl) ?_
        by_cases hc32 : r31 = 0
        · rw [if_pos hc32] at hg
          refine TT_zeq_t (t := 94) rfl rfl hc32 ?_
          refine TT_go 0 (pc' := 94) (lv' := [(4, .int x27), (0, .ref 0), (1, .int v1), (2, .int v2), (3, .int v3), (5, .int v5), (6, .int v6)]) (st' := []) (h2 := (83, J30, R0 p)) (by rcases hp with rfl | rfl <;> rfl) ?_
          refine TT_sub (lv2 := [(0, .ref 0), (1, .int v1), (2, .int v2), (3, .int v3), (4, .int x27), (5, .int v5), (6, .int v6)]) rfl rfl ⟨rfl, rfl, rfl, rfl, rfl, rfl, rfl, trivial⟩ ?_
          exact t_X8_split_94 hp ih hg
        · rw [if_neg hc32] at hg
          refine TT_zeq_f (t := 94) rfl rfl hc32 ?_
          obtain ⟨x34, hx34⟩ : ∃ x : Int32, x = (v5 + 1) := ⟨_, rfl⟩
          replace hg := bnd_use hx34 hg
          refine TT_go 1 (pc' := 94) (lv' := [(5, .int x34), (4, .int x27), (0, .ref 0), (1, .int v1), (2, .int v2), (3, .int v3), (6, .int v6)]) (st' := []) (h2 := (83, J30, R0 p)) (by subst hx34; rcases hp with rfl | rfl <;> rfl) ?_
          refine TT_sub (lv2 := [(0, .ref 0), (1, .int v1), (2, .int v2), (3, .int v3), (4, .int x27), (5, .int x34), (6, .int v6)]) rfl rfl ⟨rfl, rfl, rfl, rfl, rfl, rfl, rfl, trivial⟩ ?_
          exact t_X8_split_94 hp ih hg
def g_X8_split (n : Nat) (p : Nat) (a0 : Int32) (a1 : Int32) (I : IH) : Option (Int32 × IH) :=
  match g_X8_within n a0 0 9999 I with
  | none => none
  | some (r4, J3) =>
    if r4 = 0 then
      some ((-1), J3)
    else
      match g_X8_isHand n a1 J3 with
      | none => none
      | some (r9, J8) =>
        if r9 = 0 then
          some ((-1), J8)
        else
          match g_X8_countHoldings n p 31 J8 with
          | none => none
          | some (r14, J13) =>
            if 0 < r14 then
              if inB a1 6 = true then
                bnd (J13 54 (Int32.toNatClampNeg a1)) fun x17 =>
                if x17 = 0 then
                  some (0, J13)
                else
                  g_X8_split_56 p n a0 a1 r14 a0 0 0 J13
              else none
            else
              some ((-4), J13)
set_option maxRecDepth 20000 in
theorem t_X8_split {p : Nat} (hp : p = 5 ∨ p = 18) {n : Nat} {a0 : Int32} {a1 : Int32} {I : IH} {w : Int32 × IH} (hg : g_X8_split n p a0 a1 I = some w) : TT none mt_X8_split 0 (lv_args 0 [.ref 0, .int a0, .int a1]) [] (83, I, R0 p) (some (.int w.1)) (83, w.2, R0 p) := by
  unfold g_X8_split at hg
  refine TT_go 3 (pc' := 5) (lv' := [(0, .ref 0), (1, .int a0), (2, .int a1)]) (st' := [.int 9999, .int 0, .int a0]) (h2 := (83, I, R0 p)) (by rcases hp with rfl | rfl <;> rfl) ?_
  cases hq1 : g_X8_within n a0 0 9999 I with
  | none => rw [hq1] at hg; cases hg
  | some w2 =>
    obtain ⟨r4, J3⟩ := w2
    rw [hq1] at hg
    dsimp only at hg
    refine TT_call (me' := mt_X8_within) (as := [.int a0, .int 0, .int 9999]) (rest := []) (r1 := some (.int r4)) (h1 := (83, J3, R0 p)) rfl rfl (by rcases hp with rfl | rfl <;> rfl) (t_X8_within hq1) ?_
    refine TT_go 0 (pc' := 8) (lv' := [(0, .ref 0), (1, .int a0), (2, .int a1)]) (st' := [.int r4]) (h2 := (83, J3, R0 p)) (by rcases hp with rfl | rfl <;> rfl) ?_
    by_cases hc5 : r4 = 0
    · rw [if_pos hc5] at hg
      refine TT_zeq_t (t := 18) rfl rfl hc5 ?_
      refine TT_go 1 (pc' := 19) (lv' := [(0, .ref 0), (1, .int a0), (2, .int a1)]) (st' := [.int (-1)]) (h2 := (83, J3, R0 p)) (by rcases hp with rfl | rfl <;> rfl) ?_
      have hg := Option.some.inj hg
      subst hg
      exact TT_ret rfl rfl
    · rw [if_neg hc5] at hg
      refine TT_zeq_f (t := 18) rfl rfl hc5 ?_
      refine TT_go 1 (pc' := 12) (lv' := [(0, .ref 0), (1, .int a0), (2, .int a1)]) (st' := [.int a1]) (h2 := (83, J3, R0 p)) (by rcases hp with rfl | rfl <;> rfl) ?_
      cases hq6 : g_X8_isHand n a1 J3 with
      | none => rw [hq6] at hg; cases hg
      | some w7 =>
        obtain ⟨r9, J8⟩ := w7
        rw [hq6] at hg
        dsimp only at hg
        refine TT_call (me' := mt_X8_isHand) (as := [.int a1]) (rest := []) (r1 := some (.int r9)) (h1 := (83, J8, R0 p)) rfl rfl (by rcases hp with rfl | rfl <;> rfl) (t_X8_isHand hq6) ?_
        refine TT_go 0 (pc' := 15) (lv' := [(0, .ref 0), (1, .int a0), (2, .int a1)]) (st' := [.int r9]) (h2 := (83, J8, R0 p)) (by rcases hp with rfl | rfl <;> rfl) ?_
        by_cases hc10 : r9 = 0
        · rw [if_pos hc10] at hg
          refine TT_zne_f (t := 20) rfl rfl hc10 ?_
          refine TT_go 1 (pc' := 19) (lv' := [(0, .ref 0), (1, .int a0), (2, .int a1)]) (st' := [.int (-1)]) (h2 := (83, J8, R0 p)) (by rcases hp with rfl | rfl <;> rfl) ?_
          have hg := Option.some.inj hg
          subst hg
          exact TT_ret rfl rfl
        · rw [if_neg hc10] at hg
          refine TT_zne_t (t := 20) rfl rfl hc10 ?_
          refine TT_go 3 (pc' := 25) (lv' := [(0, .ref 0), (1, .int a0), (2, .int a1)]) (st' := [.ref 31, .ref 0]) (h2 := (83, J8, R0 p)) (by rcases hp with rfl | rfl <;> rfl) ?_
          cases hq11 : g_X8_countHoldings n p 31 J8 with
          | none => rw [hq11] at hg; cases hg
          | some w12 =>
            obtain ⟨r14, J13⟩ := w12
            rw [hq11] at hg
            dsimp only at hg
            refine TT_call (me' := mt_X8_countHoldings) (as := [.ref 0, .ref 31]) (rest := []) (r1 := some (.int r14)) (h1 := (83, J13, R0 p)) rfl rfl (by rcases hp with rfl | rfl <;> rfl) (t_X8_countHoldings hp (Or.inl rfl) hq11) ?_
            refine TT_go 2 (pc' := 30) (lv' := [(3, .int r14), (0, .ref 0), (1, .int a0), (2, .int a1)]) (st' := [.int r14]) (h2 := (83, J13, R0 p)) (by rcases hp with rfl | rfl <;> rfl) ?_
            by_cases hc15 : 0 < r14
            · rw [if_pos hc15] at hg
              refine TT_zgt_t (t := 36) rfl rfl hc15 ?_
              refine TT_go 3 (pc' := 41) (lv' := [(3, .int r14), (0, .ref 0), (1, .int a0), (2, .int a1)]) (st' := [.int a1, .ref 54]) (h2 := (83, J13, R0 p)) (by rcases hp with rfl | rfl <;> rfl) ?_
              by_cases hb16 : inB a1 6 = true
              rotate_left
              · rw [if_neg hb16] at hg; cases hg
              rw [if_pos hb16] at hg
              refine TT_iald (n := 6) rfl (by rcases hp with rfl | rfl <;> rfl) hb16 ?_
              obtain ⟨x17, hx17⟩ : ∃ x : Int32, x = (J13 54 (Int32.toNatClampNeg a1)) := ⟨_, rfl⟩
              replace hg := bnd_use hx17 hg
              refine TT_go 0 (pc' := 42) (lv' := [(3, .int r14), (0, .ref 0), (1, .int a0), (2, .int a1)]) (st' := [.int x17]) (h2 := (83, J13, R0 p)) (by subst hx17; rcases hp with rfl | rfl <;> rfl) ?_
              by_cases hc18 : x17 = 0
              · rw [if_pos hc18] at hg
                refine TT_zne_f (t := 47) rfl rfl hc18 ?_
                refine TT_go 1 (pc' := 46) (lv' := [(3, .int r14), (0, .ref 0), (1, .int a0), (2, .int a1)]) (st' := [.int 0]) (h2 := (83, J13, R0 p)) (by rcases hp with rfl | rfl <;> rfl) ?_
                have hg := Option.some.inj hg
                subst hg
                exact TT_ret rfl rfl
              · rw [if_neg hc18] at hg
                refine TT_zne_t (t := 47) rfl rfl hc18 ?_
                refine TT_go 6 (pc' := 56) (lv' := [(6, .int 0), (5, .int 0), (4, .int a0), (3, .int r14), (0, .ref 0), (1, .int a0), (2, .int a1)]) (st' := []) (h2 := (83, J13, R0 p)) (by rcases hp with rfl | rfl <;> rfl) ?_
                refine TT_sub (lv2 := [(0, .ref 0), (1, .int a0), (2, .int a1), (3, .int r14), (4, .int a0), (5, .int 0), (6, .int 0)]) rfl rfl ⟨rfl, rfl, rfl, rfl, rfl, rfl, rfl, trivial⟩ ?_
                exact t_X8_split_56 hp n a0 a1 r14 a0 0 0 _ _ hg
            · rw [if_neg hc15] at hg
              refine TT_zgt_f (t := 36) rfl rfl hc15 ?_
              refine TT_go 1 (pc' := 35) (lv' := [(3, .int r14), (0, .ref 0), (1, .int a0), (2, .int a1)]) (st' := [.int (-4)]) (h2 := (83, J13, R0 p)) (by rcases hp with rfl | rfl <;> rfl) ?_
              have hg := Option.some.inj hg
              subst hg
              exact TT_ret rfl rfl
def g_X8_isNight (n : Nat) (a0 : Int32) (a1 : Int32) (I : IH) : Option (Int32 × IH) :=
  match g_X8_within n a0 0 9999 I with
  | none => none
  | some (r4, J3) =>
    if r4 = 0 then
      some (0, J3)
    else
      match g_X8_within n a1 0 2000 J3 with
      | none => none
      | some (r9, J8) =>
        if r9 = 0 then
          some (0, J8)
        else
          some (1, J8)
set_option maxRecDepth 20000 in
theorem t_X8_isNight {p : Nat} {n : Nat} {a0 : Int32} {a1 : Int32} {I : IH} {w : Int32 × IH} (hg : g_X8_isNight n a0 a1 I = some w) : TT none mt_X8_isNight 0 (lv_args 0 [.int a0, .int a1]) [] (83, I, R0 p) (some (.int w.1)) (83, w.2, R0 p) := by
  unfold g_X8_isNight at hg
  refine TT_go 3 (pc' := 5) (lv' := [(0, .int a0), (1, .int a1)]) (st' := [.int 9999, .int 0, .int a0]) (h2 := (83, I, R0 p)) (by rfl) ?_
  cases hq1 : g_X8_within n a0 0 9999 I with
  | none => rw [hq1] at hg; cases hg
  | some w2 =>
    obtain ⟨r4, J3⟩ := w2
    rw [hq1] at hg
    dsimp only at hg
    refine TT_call (me' := mt_X8_within) (as := [.int a0, .int 0, .int 9999]) (rest := []) (r1 := some (.int r4)) (h1 := (83, J3, R0 p)) rfl rfl (by rfl) (t_X8_within hq1) ?_
    refine TT_go 0 (pc' := 8) (lv' := [(0, .int a0), (1, .int a1)]) (st' := [.int r4]) (h2 := (83, J3, R0 p)) (by rfl) ?_
    by_cases hc5 : r4 = 0
    · rw [if_pos hc5] at hg
      refine TT_zeq_t (t := 26) rfl rfl hc5 ?_
      refine TT_go 1 (pc' := 27) (lv' := [(0, .int a0), (1, .int a1)]) (st' := [.int 0]) (h2 := (83, J3, R0 p)) (by rfl) ?_
      have hg := Option.some.inj hg
      subst hg
      exact TT_ret rfl rfl
    · rw [if_neg hc5] at hg
      refine TT_zeq_f (t := 26) rfl rfl hc5 ?_
      refine TT_go 3 (pc' := 16) (lv' := [(0, .int a0), (1, .int a1)]) (st' := [.int 2000, .int 0, .int a1]) (h2 := (83, J3, R0 p)) (by rfl) ?_
      cases hq6 : g_X8_within n a1 0 2000 J3 with
      | none => rw [hq6] at hg; cases hg
      | some w7 =>
        obtain ⟨r9, J8⟩ := w7
        rw [hq6] at hg
        dsimp only at hg
        refine TT_call (me' := mt_X8_within) (as := [.int a1, .int 0, .int 2000]) (rest := []) (r1 := some (.int r9)) (h1 := (83, J8, R0 p)) rfl rfl (by rfl) (t_X8_within hq6) ?_
        refine TT_go 0 (pc' := 19) (lv' := [(0, .int a0), (1, .int a1)]) (st' := [.int r9]) (h2 := (83, J8, R0 p)) (by rfl) ?_
        by_cases hc10 : r9 = 0
        · rw [if_pos hc10] at hg
          refine TT_zeq_t (t := 26) rfl rfl hc10 ?_
          refine TT_go 1 (pc' := 27) (lv' := [(0, .int a0), (1, .int a1)]) (st' := [.int 0]) (h2 := (83, J8, R0 p)) (by rfl) ?_
          have hg := Option.some.inj hg
          subst hg
          exact TT_ret rfl rfl
        · rw [if_neg hc10] at hg
          refine TT_zeq_f (t := 26) rfl rfl hc10 ?_
          refine TT_go 2 (pc' := 27) (lv' := [(0, .int a0), (1, .int a1)]) (st' := [.int 1]) (h2 := (83, J8, R0 p)) (by rfl) ?_
          have hg := Option.some.inj hg
          subst hg
          exact TT_ret rfl rfl
def g_X8_passNight (n : Nat) (p : Nat) (a0 : Int32) (a1 : Int32) (I : IH) : Option (IH) :=
  match g_X5_copyFrom n 33 31 I with
  | none => none
  | some J3 =>
    match g_X1_pass n p a0 a1 J3 with
    | none => none
    | some J6 =>
      some J6
set_option maxRecDepth 20000 in
theorem t_X8_passNight {p : Nat} (hp : p = 5 ∨ p = 18) {n : Nat} {a0 : Int32} {a1 : Int32} {I : IH} {w : IH} (hg : g_X8_passNight n p a0 a1 I = some w) : TT none mt_X8_passNight 0 (lv_args 0 [.ref 0, .int a0, .int a1]) [] (83, I, R0 p) none (83, w, R0 p) := by
  unfold g_X8_passNight at hg
  refine TT_go 4 (pc' := 8) (lv' := [(0, .ref 0), (1, .int a0), (2, .int a1)]) (st' := [.ref 31, .ref 33]) (h2 := (83, I, R0 p)) (by rcases hp with rfl | rfl <;> rfl) ?_
  cases hq1 : g_X5_copyFrom n 33 31 I with
  | none => rw [hq1] at hg; cases hg
  | some w2 =>
    obtain ⟨J3, hJ3⟩ : ∃ J, J = w2 := ⟨_, rfl⟩
    rw [← hJ3] at hq1
    rw [hq1] at hg
    dsimp only at hg
    refine TT_call (me' := mt_X5_copyFrom) (as := [.ref 33, .ref 31]) (rest := []) (r1 := none) (h1 := (83, J3, R0 p)) rfl rfl (by rcases hp with rfl | rfl <;> rfl) (t_X5_copyFrom (Or.inr (Or.inl rfl)) (Or.inl rfl) hq1) ?_
    refine TT_go 8 (pc' := 25) (lv' := [(0, .ref 0), (1, .int a0), (2, .int a1)]) (st' := [.int a1, .int a0, .ref 33, .ref p, .ref 47]) (h2 := (83, J3, R0 p)) (by rcases hp with rfl | rfl <;> rfl) ?_
    cases hq4 : g_X1_pass n p a0 a1 J3 with
    | none => rw [hq4] at hg; cases hg
    | some w5 =>
      obtain ⟨J6, hJ6⟩ : ∃ J, J = w5 := ⟨_, rfl⟩
      rw [← hJ6] at hq4
      rw [hq4] at hg
      dsimp only at hg
      refine TT_call (me' := mt_X1_pass) (as := [.ref 47, .ref p, .ref 33, .int a0, .int a1]) (rest := []) (r1 := none) (h1 := (83, J6, R0 p)) rfl rfl (by rcases hp with rfl | rfl <;> rfl) (t_X1_pass hp hq4) ?_
      refine TT_go 0 (pc' := 28) (lv' := [(0, .ref 0), (1, .int a0), (2, .int a1)]) (st' := []) (h2 := (83, J6, R0 p)) (by rcases hp with rfl | rfl <;> rfl) ?_
      have hg := Option.some.inj hg
      subst hg
      exact TT_ret rfl rfl
def g_X8_night (n : Nat) (p : Nat) (a0 : Int32) (a1 : Int32) (a2 : Int32) (I : IH) : Option (Int32 × IH) :=
  match g_X8_isNight n a0 a1 I with
  | none => none
  | some (r4, J3) =>
    if r4 = 0 then
      some ((-1), J3)
    else
      match g_X8_within n a2 0 1 J3 with
      | none => none
      | some (r9, J8) =>
        if r9 = 0 then
          some ((-1), J8)
        else
          match g_X8_passNight n p a0 a1 J8 with
          | none => none
          | some J13 =>
            if a2 = 0 then
              some ((J13 47 0), J13)
            else
              some ((J13 47 1), J13)
set_option maxRecDepth 20000 in
theorem t_X8_night {p : Nat} (hp : p = 5 ∨ p = 18) {n : Nat} {a0 : Int32} {a1 : Int32} {a2 : Int32} {I : IH} {w : Int32 × IH} (hg : g_X8_night n p a0 a1 a2 I = some w) : TT none mt_X8_night 0 (lv_args 0 [.ref 0, .int a0, .int a1, .int a2]) [] (83, I, R0 p) (some (.int w.1)) (83, w.2, R0 p) := by
  unfold g_X8_night at hg
  refine TT_go 2 (pc' := 2) (lv' := [(0, .ref 0), (1, .int a0), (2, .int a1), (3, .int a2)]) (st' := [.int a1, .int a0]) (h2 := (83, I, R0 p)) (by rcases hp with rfl | rfl <;> rfl) ?_
  cases hq1 : g_X8_isNight n a0 a1 I with
  | none => rw [hq1] at hg; cases hg
  | some w2 =>
    obtain ⟨r4, J3⟩ := w2
    rw [hq1] at hg
    dsimp only at hg
    refine TT_call (me' := mt_X8_isNight) (as := [.int a0, .int a1]) (rest := []) (r1 := some (.int r4)) (h1 := (83, J3, R0 p)) rfl rfl (by rcases hp with rfl | rfl <;> rfl) (t_X8_isNight hq1) ?_
    refine TT_go 0 (pc' := 5) (lv' := [(0, .ref 0), (1, .int a0), (2, .int a1), (3, .int a2)]) (st' := [.int r4]) (h2 := (83, J3, R0 p)) (by rcases hp with rfl | rfl <;> rfl) ?_
    by_cases hc5 : r4 = 0
    · rw [if_pos hc5] at hg
      refine TT_zeq_t (t := 17) rfl rfl hc5 ?_
      refine TT_go 1 (pc' := 18) (lv' := [(0, .ref 0), (1, .int a0), (2, .int a1), (3, .int a2)]) (st' := [.int (-1)]) (h2 := (83, J3, R0 p)) (by rcases hp with rfl | rfl <;> rfl) ?_
      have hg := Option.some.inj hg
      subst hg
      exact TT_ret rfl rfl
    · rw [if_neg hc5] at hg
      refine TT_zeq_f (t := 17) rfl rfl hc5 ?_
      refine TT_go 3 (pc' := 11) (lv' := [(0, .ref 0), (1, .int a0), (2, .int a1), (3, .int a2)]) (st' := [.int 1, .int 0, .int a2]) (h2 := (83, J3, R0 p)) (by rcases hp with rfl | rfl <;> rfl) ?_
      cases hq6 : g_X8_within n a2 0 1 J3 with
      | none => rw [hq6] at hg; cases hg
      | some w7 =>
        obtain ⟨r9, J8⟩ := w7
        rw [hq6] at hg
        dsimp only at hg
        refine TT_call (me' := mt_X8_within) (as := [.int a2, .int 0, .int 1]) (rest := []) (r1 := some (.int r9)) (h1 := (83, J8, R0 p)) rfl rfl (by rcases hp with rfl | rfl <;> rfl) (t_X8_within hq6) ?_
        refine TT_go 0 (pc' := 14) (lv' := [(0, .ref 0), (1, .int a0), (2, .int a1), (3, .int a2)]) (st' := [.int r9]) (h2 := (83, J8, R0 p)) (by rcases hp with rfl | rfl <;> rfl) ?_
        by_cases hc10 : r9 = 0
        · rw [if_pos hc10] at hg
          refine TT_zne_f (t := 19) rfl rfl hc10 ?_
          refine TT_go 1 (pc' := 18) (lv' := [(0, .ref 0), (1, .int a0), (2, .int a1), (3, .int a2)]) (st' := [.int (-1)]) (h2 := (83, J8, R0 p)) (by rcases hp with rfl | rfl <;> rfl) ?_
          have hg := Option.some.inj hg
          subst hg
          exact TT_ret rfl rfl
        · rw [if_neg hc10] at hg
          refine TT_zne_t (t := 19) rfl rfl hc10 ?_
          refine TT_go 3 (pc' := 22) (lv' := [(0, .ref 0), (1, .int a0), (2, .int a1), (3, .int a2)]) (st' := [.int a1, .int a0, .ref 0]) (h2 := (83, J8, R0 p)) (by rcases hp with rfl | rfl <;> rfl) ?_
          cases hq11 : g_X8_passNight n p a0 a1 J8 with
          | none => rw [hq11] at hg; cases hg
          | some w12 =>
            obtain ⟨J13, hJ13⟩ : ∃ J, J = w12 := ⟨_, rfl⟩
            rw [← hJ13] at hq11
            rw [hq11] at hg
            dsimp only at hg
            refine TT_call (me' := mt_X8_passNight) (as := [.ref 0, .int a0, .int a1]) (rest := []) (r1 := none) (h1 := (83, J13, R0 p)) rfl rfl (by rcases hp with rfl | rfl <;> rfl) (t_X8_passNight hp hq11) ?_
            refine TT_go 1 (pc' := 26) (lv' := [(0, .ref 0), (1, .int a0), (2, .int a1), (3, .int a2)]) (st' := [.int a2]) (h2 := (83, J13, R0 p)) (by rcases hp with rfl | rfl <;> rfl) ?_
            by_cases hc14 : a2 = 0
            · rw [if_pos hc14] at hg
              refine TT_zne_f (t := 39) rfl rfl hc14 ?_
              refine TT_go 4 (pc' := 46) (lv' := [(0, .ref 0), (1, .int a0), (2, .int a1), (3, .int a2)]) (st' := [.int (J13 47 0)]) (h2 := (83, J13, R0 p)) (by rcases hp with rfl | rfl <;> rfl) ?_
              have hg := Option.some.inj hg
              subst hg
              exact TT_ret rfl rfl
            · rw [if_neg hc14] at hg
              refine TT_zne_t (t := 39) rfl rfl hc14 ?_
              refine TT_go 3 (pc' := 46) (lv' := [(0, .ref 0), (1, .int a0), (2, .int a1), (3, .int a2)]) (st' := [.int (J13 47 1)]) (h2 := (83, J13, R0 p)) (by rcases hp with rfl | rfl <;> rfl) ?_
              have hg := Option.some.inj hg
              subst hg
              exact TT_ret rfl rfl
def g_X8_nightHas (n : Nat) (p : Nat) (a0 : Int32) (a1 : Int32) (a2 : Int32) (I : IH) : Option (Int32 × IH) :=
  match g_X8_isNight n a0 a1 I with
  | none => none
  | some (r4, J3) =>
    if r4 = 0 then
      some ((-1), J3)
    else
      match g_X8_isHand n a2 J3 with
      | none => none
      | some (r9, J8) =>
        if r9 = 0 then
          some ((-1), J8)
        else
          match g_X8_passNight n p a0 a1 J8 with
          | none => none
          | some J13 =>
            match g_X5_grainsOf n 33 p a2 J13 with
            | none => none
            | some (r17, J16) =>
              some (r17, J16)
set_option maxRecDepth 20000 in
theorem t_X8_nightHas {p : Nat} (hp : p = 5 ∨ p = 18) {n : Nat} {a0 : Int32} {a1 : Int32} {a2 : Int32} {I : IH} {w : Int32 × IH} (hg : g_X8_nightHas n p a0 a1 a2 I = some w) : TT none mt_X8_nightHas 0 (lv_args 0 [.ref 0, .int a0, .int a1, .int a2]) [] (83, I, R0 p) (some (.int w.1)) (83, w.2, R0 p) := by
  unfold g_X8_nightHas at hg
  refine TT_go 2 (pc' := 2) (lv' := [(0, .ref 0), (1, .int a0), (2, .int a1), (3, .int a2)]) (st' := [.int a1, .int a0]) (h2 := (83, I, R0 p)) (by rcases hp with rfl | rfl <;> rfl) ?_
  cases hq1 : g_X8_isNight n a0 a1 I with
  | none => rw [hq1] at hg; cases hg
  | some w2 =>
    obtain ⟨r4, J3⟩ := w2
    rw [hq1] at hg
    dsimp only at hg
    refine TT_call (me' := mt_X8_isNight) (as := [.int a0, .int a1]) (rest := []) (r1 := some (.int r4)) (h1 := (83, J3, R0 p)) rfl rfl (by rcases hp with rfl | rfl <;> rfl) (t_X8_isNight hq1) ?_
    refine TT_go 0 (pc' := 5) (lv' := [(0, .ref 0), (1, .int a0), (2, .int a1), (3, .int a2)]) (st' := [.int r4]) (h2 := (83, J3, R0 p)) (by rcases hp with rfl | rfl <;> rfl) ?_
    by_cases hc5 : r4 = 0
    · rw [if_pos hc5] at hg
      refine TT_zeq_t (t := 15) rfl rfl hc5 ?_
      refine TT_go 1 (pc' := 16) (lv' := [(0, .ref 0), (1, .int a0), (2, .int a1), (3, .int a2)]) (st' := [.int (-1)]) (h2 := (83, J3, R0 p)) (by rcases hp with rfl | rfl <;> rfl) ?_
      have hg := Option.some.inj hg
      subst hg
      exact TT_ret rfl rfl
    · rw [if_neg hc5] at hg
      refine TT_zeq_f (t := 15) rfl rfl hc5 ?_
      refine TT_go 1 (pc' := 9) (lv' := [(0, .ref 0), (1, .int a0), (2, .int a1), (3, .int a2)]) (st' := [.int a2]) (h2 := (83, J3, R0 p)) (by rcases hp with rfl | rfl <;> rfl) ?_
      cases hq6 : g_X8_isHand n a2 J3 with
      | none => rw [hq6] at hg; cases hg
      | some w7 =>
        obtain ⟨r9, J8⟩ := w7
        rw [hq6] at hg
        dsimp only at hg
        refine TT_call (me' := mt_X8_isHand) (as := [.int a2]) (rest := []) (r1 := some (.int r9)) (h1 := (83, J8, R0 p)) rfl rfl (by rcases hp with rfl | rfl <;> rfl) (t_X8_isHand hq6) ?_
        refine TT_go 0 (pc' := 12) (lv' := [(0, .ref 0), (1, .int a0), (2, .int a1), (3, .int a2)]) (st' := [.int r9]) (h2 := (83, J8, R0 p)) (by rcases hp with rfl | rfl <;> rfl) ?_
        by_cases hc10 : r9 = 0
        · rw [if_pos hc10] at hg
          refine TT_zne_f (t := 17) rfl rfl hc10 ?_
          refine TT_go 1 (pc' := 16) (lv' := [(0, .ref 0), (1, .int a0), (2, .int a1), (3, .int a2)]) (st' := [.int (-1)]) (h2 := (83, J8, R0 p)) (by rcases hp with rfl | rfl <;> rfl) ?_
          have hg := Option.some.inj hg
          subst hg
          exact TT_ret rfl rfl
        · rw [if_neg hc10] at hg
          refine TT_zne_t (t := 17) rfl rfl hc10 ?_
          refine TT_go 3 (pc' := 20) (lv' := [(0, .ref 0), (1, .int a0), (2, .int a1), (3, .int a2)]) (st' := [.int a1, .int a0, .ref 0]) (h2 := (83, J8, R0 p)) (by rcases hp with rfl | rfl <;> rfl) ?_
          cases hq11 : g_X8_passNight n p a0 a1 J8 with
          | none => rw [hq11] at hg; cases hg
          | some w12 =>
            obtain ⟨J13, hJ13⟩ : ∃ J, J = w12 := ⟨_, rfl⟩
            rw [← hJ13] at hq11
            rw [hq11] at hg
            dsimp only at hg
            refine TT_call (me' := mt_X8_passNight) (as := [.ref 0, .int a0, .int a1]) (rest := []) (r1 := none) (h1 := (83, J13, R0 p)) rfl rfl (by rcases hp with rfl | rfl <;> rfl) (t_X8_passNight hp hq11) ?_
            refine TT_go 5 (pc' := 32) (lv' := [(0, .ref 0), (1, .int a0), (2, .int a1), (3, .int a2)]) (st' := [.int a2, .ref p, .ref 33]) (h2 := (83, J13, R0 p)) (by rcases hp with rfl | rfl <;> rfl) ?_
            cases hq14 : g_X5_grainsOf n 33 p a2 J13 with
            | none => rw [hq14] at hg; cases hg
            | some w15 =>
              obtain ⟨r17, J16⟩ := w15
              rw [hq14] at hg
              dsimp only at hg
              refine TT_call (me' := mt_X5_grainsOf) (as := [.ref 33, .ref p, .int a2]) (rest := []) (r1 := some (.int r17)) (h1 := (83, J16, R0 p)) rfl rfl (by rcases hp with rfl | rfl <;> rfl) (t_X5_grainsOf (Or.inr rfl) hp hq14) ?_
              refine TT_go 0 (pc' := 35) (lv' := [(0, .ref 0), (1, .int a0), (2, .int a1), (3, .int a2)]) (st' := [.int r17]) (h2 := (83, J16, R0 p)) (by rcases hp with rfl | rfl <;> rfl) ?_
              have hg := Option.some.inj hg
              subst hg
              exact TT_ret rfl rfl
def g_X8_keep (n : Nat) (p : Nat) (I : IH) : Option (Int32 × IH) :=
  if (I 0 12) < 2 then
    if (I 0 12) = 0 then
      match g_X5_copyFrom n 49 31 I with
      | none => none
      | some J5 =>
        if inB (J5 0 12) 2 = true then
          bnd (up2 J5 53 (Int32.toNatClampNeg (J5 0 12)) (J5 40 0)) fun J7 =>
          bnd (up2 J7 0 12 ((J7 0 12) + 1)) fun J8 =>
          some ((J8 0 12), J8)
        else none
    else if (I 0 12) = 1 then
      match g_X5_copyFrom n 51 31 I with
      | none => none
      | some J12 =>
        if inB (J12 0 12) 2 = true then
          bnd (up2 J12 53 (Int32.toNatClampNeg (J12 0 12)) (J12 40 0)) fun J14 =>
          bnd (up2 J14 0 12 ((J14 0 12) + 1)) fun J15 =>
          some ((J15 0 12), J15)
        else none
    else none
  else
    some ((-3), I)
set_option maxRecDepth 20000 in
theorem t_X8_keep {p : Nat} (hp : p = 5 ∨ p = 18) {n : Nat} {I : IH} {w : Int32 × IH} (hg : g_X8_keep n p I = some w) : TT none mt_X8_keep 0 (lv_args 0 [.ref 0]) [] (83, I, R0 p) (some (.int w.1)) (83, w.2, R0 p) := by
  unfold g_X8_keep at hg
  refine TT_go 3 (pc' := 5) (lv' := [(0, .ref 0)]) (st' := [.int 2, .int (I 0 12)]) (h2 := (83, I, R0 p)) (by rcases hp with rfl | rfl <;> rfl) ?_
  by_cases hc1 : (I 0 12) < 2
  · rw [if_pos hc1] at hg
    refine TT_ilt_t (t := 11) rfl rfl hc1 ?_
    refine TT_go 4 (pc' := 19) (lv' := [(0, .ref 0)]) (st' := [.int (I 0 12), .ref 48]) (h2 := (83, I, R0 p)) (by rcases hp with rfl | rfl <;> rfl) ?_
    by_cases hc2 : (I 0 12) = 0
    · rw [if_pos hc2] at hg
      refine TT_aald (n := 2) (q := 49) rfl rfl (by rw [hc2]; rfl) (by rw [hc2]; rfl) ?_
      refine TT_go 2 (pc' := 24) (lv' := [(0, .ref 0)]) (st' := [.ref 31, .ref 49]) (h2 := (83, I, R0 p)) (by rcases hp with rfl | rfl <;> rfl) ?_
      cases hq3 : g_X5_copyFrom n 49 31 I with
      | none => rw [hq3] at hg; cases hg
      | some w4 =>
        obtain ⟨J5, hJ5⟩ : ∃ J, J = w4 := ⟨_, rfl⟩
        rw [← hJ5] at hq3
        rw [hq3] at hg
        dsimp only at hg
        refine TT_call (me' := mt_X5_copyFrom) (as := [.ref 49, .ref 31]) (rest := []) (r1 := none) (h1 := (83, J5, R0 p)) rfl rfl (by rcases hp with rfl | rfl <;> rfl) (t_X5_copyFrom (Or.inr (Or.inr (Or.inl rfl))) (Or.inl rfl) hq3) ?_
        refine TT_go 7 (pc' := 42) (lv' := [(0, .ref 0)]) (st' := [.int (J5 40 0), .int (J5 0 12), .ref 53]) (h2 := (83, J5, R0 p)) (by rcases hp with rfl | rfl <;> rfl) ?_
        by_cases hb6 : inB (J5 0 12) 2 = true
        rotate_left
        · rw [if_neg hb6] at hg; cases hg
        rw [if_pos hb6] at hg
        refine TT_iast (n := 2) rfl (by rcases hp with rfl | rfl <;> rfl) hb6 ?_
        obtain ⟨J7, hJ7⟩ : ∃ x : IH, x = (up2 J5 53 (Int32.toNatClampNeg (J5 0 12)) (J5 40 0)) := ⟨_, rfl⟩
        replace hg := bnd_use hJ7 hg
        refine TT_go 0 (pc' := 43) (lv' := [(0, .ref 0)]) (st' := []) (h2 := (83, J7, R0 p)) (by subst hJ7; rcases hp with rfl | rfl <;> rfl) ?_
        obtain ⟨J8, hJ8⟩ : ∃ x : IH, x = (up2 J7 0 12 ((J7 0 12) + 1)) := ⟨_, rfl⟩
        replace hg := bnd_use hJ8 hg
        refine TT_go 6 (pc' := 53) (lv' := [(0, .ref 0)]) (st' := []) (h2 := (83, J8, R0 p)) (by subst hJ8; rcases hp with rfl | rfl <;> rfl) ?_
        refine TT_go 2 (pc' := 57) (lv' := [(0, .ref 0)]) (st' := [.int (J8 0 12)]) (h2 := (83, J8, R0 p)) (by rcases hp with rfl | rfl <;> rfl) ?_
        have hg := Option.some.inj hg
        subst hg
        exact TT_ret rfl rfl
    rw [if_neg hc2] at hg
    by_cases hc9 : (I 0 12) = 1
    · rw [if_pos hc9] at hg
      refine TT_aald (n := 2) (q := 51) rfl rfl (by rw [hc9]; rfl) (by rw [hc9]; rfl) ?_
      refine TT_go 2 (pc' := 24) (lv' := [(0, .ref 0)]) (st' := [.ref 31, .ref 51]) (h2 := (83, I, R0 p)) (by rcases hp with rfl | rfl <;> rfl) ?_
      cases hq10 : g_X5_copyFrom n 51 31 I with
      | none => rw [hq10] at hg; cases hg
      | some w11 =>
        obtain ⟨J12, hJ12⟩ : ∃ J, J = w11 := ⟨_, rfl⟩
        rw [← hJ12] at hq10
        rw [hq10] at hg
        dsimp only at hg
        refine TT_call (me' := mt_X5_copyFrom) (as := [.ref 51, .ref 31]) (rest := []) (r1 := none) (h1 := (83, J12, R0 p)) rfl rfl (by rcases hp with rfl | rfl <;> rfl) (t_X5_copyFrom (Or.inr (Or.inr (Or.inr rfl))) (Or.inl rfl) hq10) ?_
        refine TT_go 7 (pc' := 42) (lv' := [(0, .ref 0)]) (st' := [.int (J12 40 0), .int (J12 0 12), .ref 53]) (h2 := (83, J12, R0 p)) (by rcases hp with rfl | rfl <;> rfl) ?_
        by_cases hb13 : inB (J12 0 12) 2 = true
        rotate_left
        · rw [if_neg hb13] at hg; cases hg
        rw [if_pos hb13] at hg
        refine TT_iast (n := 2) rfl (by rcases hp with rfl | rfl <;> rfl) hb13 ?_
        obtain ⟨J14, hJ14⟩ : ∃ x : IH, x = (up2 J12 53 (Int32.toNatClampNeg (J12 0 12)) (J12 40 0)) := ⟨_, rfl⟩
        replace hg := bnd_use hJ14 hg
        refine TT_go 0 (pc' := 43) (lv' := [(0, .ref 0)]) (st' := []) (h2 := (83, J14, R0 p)) (by subst hJ14; rcases hp with rfl | rfl <;> rfl) ?_
        obtain ⟨J15, hJ15⟩ : ∃ x : IH, x = (up2 J14 0 12 ((J14 0 12) + 1)) := ⟨_, rfl⟩
        replace hg := bnd_use hJ15 hg
        refine TT_go 6 (pc' := 53) (lv' := [(0, .ref 0)]) (st' := []) (h2 := (83, J15, R0 p)) (by subst hJ15; rcases hp with rfl | rfl <;> rfl) ?_
        refine TT_go 2 (pc' := 57) (lv' := [(0, .ref 0)]) (st' := [.int (J15 0 12)]) (h2 := (83, J15, R0 p)) (by rcases hp with rfl | rfl <;> rfl) ?_
        have hg := Option.some.inj hg
        subst hg
        exact TT_ret rfl rfl
    rw [if_neg hc9] at hg
    cases hg
  · rw [if_neg hc1] at hg
    refine TT_ilt_f (t := 11) rfl rfl hc1 ?_
    refine TT_go 1 (pc' := 10) (lv' := [(0, .ref 0)]) (st' := [.int (-3)]) (h2 := (83, I, R0 p)) (by rcases hp with rfl | rfl <;> rfl) ?_
    have hg := Option.some.inj hg
    subst hg
    exact TT_ret rfl rfl
def g_X8_back (n : Nat) (p : Nat) (I : IH) : Option (Int32 × IH) :=
  if 0 < (I 0 12) then
    bnd (up2 I 0 12 ((I 0 12) - 1)) fun J2 =>
    if (J2 0 12) = 0 then
      match g_X5_copyFrom n 31 49 J2 with
      | none => none
      | some J6 =>
        if inB (J6 0 12) 2 = true then
          bnd (J6 53 (Int32.toNatClampNeg (J6 0 12))) fun x8 =>
          bnd (up2 J6 40 0 x8) fun J9 =>
          bnd (up2 J9 35 0 0) fun J10 =>
          some ((J10 0 12), J10)
        else none
    else if (J2 0 12) = 1 then
      match g_X5_copyFrom n 31 51 J2 with
      | none => none
      | some J14 =>
        if inB (J14 0 12) 2 = true then
          bnd (J14 53 (Int32.toNatClampNeg (J14 0 12))) fun x16 =>
          bnd (up2 J14 40 0 x16) fun J17 =>
          bnd (up2 J17 35 0 0) fun J18 =>
          some ((J18 0 12), J18)
        else none
    else none
  else
    some ((-2), I)
set_option maxRecDepth 20000 in
theorem t_X8_back {p : Nat} (hp : p = 5 ∨ p = 18) {n : Nat} {I : IH} {w : Int32 × IH} (hg : g_X8_back n p I = some w) : TT none mt_X8_back 0 (lv_args 0 [.ref 0]) [] (83, I, R0 p) (some (.int w.1)) (83, w.2, R0 p) := by
  unfold g_X8_back at hg
  refine TT_go 2 (pc' := 4) (lv' := [(0, .ref 0)]) (st' := [.int (I 0 12)]) (h2 := (83, I, R0 p)) (by rcases hp with rfl | rfl <;> rfl) ?_
  by_cases hc1 : 0 < (I 0 12)
  · rw [if_pos hc1] at hg
    refine TT_zgt_t (t := 10) rfl rfl hc1 ?_
    obtain ⟨J2, hJ2⟩ : ∃ x : IH, x = (up2 I 0 12 ((I 0 12) - 1)) := ⟨_, rfl⟩
    replace hg := bnd_use hJ2 hg
    refine TT_go 6 (pc' := 20) (lv' := [(0, .ref 0)]) (st' := []) (h2 := (83, J2, R0 p)) (by subst hJ2; rcases hp with rfl | rfl <;> rfl) ?_
    refine TT_go 6 (pc' := 32) (lv' := [(0, .ref 0)]) (st' := [.int (J2 0 12), .ref 48, .ref 31]) (h2 := (83, J2, R0 p)) (by rcases hp with rfl | rfl <;> rfl) ?_
    by_cases hc3 : (J2 0 12) = 0
    · rw [if_pos hc3] at hg
      refine TT_aald (n := 2) (q := 49) rfl rfl (by rw [hc3]; rfl) (by rw [hc3]; rfl) ?_
      refine TT_go 0 (pc' := 33) (lv' := [(0, .ref 0)]) (st' := [.ref 49, .ref 31]) (h2 := (83, J2, R0 p)) (by rcases hp with rfl | rfl <;> rfl) ?_
      cases hq4 : g_X5_copyFrom n 31 49 J2 with
      | none => rw [hq4] at hg; cases hg
      | some w5 =>
        obtain ⟨J6, hJ6⟩ : ∃ J, J = w5 := ⟨_, rfl⟩
        rw [← hJ6] at hq4
        rw [hq4] at hg
        dsimp only at hg
        refine TT_call (me' := mt_X5_copyFrom) (as := [.ref 31, .ref 49]) (rest := []) (r1 := none) (h1 := (83, J6, R0 p)) rfl rfl (by rcases hp with rfl | rfl <;> rfl) (t_X5_copyFrom (Or.inl rfl) (Or.inr (Or.inr (Or.inl rfl))) hq4) ?_
        refine TT_go 6 (pc' := 48) (lv' := [(0, .ref 0)]) (st' := [.int (J6 0 12), .ref 53, .ref 40]) (h2 := (83, J6, R0 p)) (by rcases hp with rfl | rfl <;> rfl) ?_
        by_cases hb7 : inB (J6 0 12) 2 = true
        rotate_left
        · rw [if_neg hb7] at hg; cases hg
        rw [if_pos hb7] at hg
        refine TT_iald (n := 2) rfl (by rcases hp with rfl | rfl <;> rfl) hb7 ?_
        obtain ⟨x8, hx8⟩ : ∃ x : Int32, x = (J6 53 (Int32.toNatClampNeg (J6 0 12))) := ⟨_, rfl⟩
        replace hg := bnd_use hx8 hg
        refine TT_go 0 (pc' := 49) (lv' := [(0, .ref 0)]) (st' := [.int x8, .ref 40]) (h2 := (83, J6, R0 p)) (by subst hx8; rcases hp with rfl | rfl <;> rfl) ?_
        obtain ⟨J9, hJ9⟩ : ∃ x : IH, x = (up2 J6 40 0 x8) := ⟨_, rfl⟩
        replace hg := bnd_use hJ9 hg
        refine TT_go 1 (pc' := 52) (lv' := [(0, .ref 0)]) (st' := []) (h2 := (83, J9, R0 p)) (by subst hJ9; rcases hp with rfl | rfl <;> rfl) ?_
        obtain ⟨J10, hJ10⟩ : ∃ x : IH, x = (up2 J9 35 0 0) := ⟨_, rfl⟩
        replace hg := bnd_use hJ10 hg
        refine TT_go 4 (pc' := 60) (lv' := [(0, .ref 0)]) (st' := []) (h2 := (83, J10, R0 p)) (by subst hJ10; rcases hp with rfl | rfl <;> rfl) ?_
        refine TT_go 2 (pc' := 64) (lv' := [(0, .ref 0)]) (st' := [.int (J10 0 12)]) (h2 := (83, J10, R0 p)) (by rcases hp with rfl | rfl <;> rfl) ?_
        have hg := Option.some.inj hg
        subst hg
        exact TT_ret rfl rfl
    rw [if_neg hc3] at hg
    by_cases hc11 : (J2 0 12) = 1
    · rw [if_pos hc11] at hg
      refine TT_aald (n := 2) (q := 51) rfl rfl (by rw [hc11]; rfl) (by rw [hc11]; rfl) ?_
      refine TT_go 0 (pc' := 33) (lv' := [(0, .ref 0)]) (st' := [.ref 51, .ref 31]) (h2 := (83, J2, R0 p)) (by rcases hp with rfl | rfl <;> rfl) ?_
      cases hq12 : g_X5_copyFrom n 31 51 J2 with
      | none => rw [hq12] at hg; cases hg
      | some w13 =>
        obtain ⟨J14, hJ14⟩ : ∃ J, J = w13 := ⟨_, rfl⟩
        rw [← hJ14] at hq12
        rw [hq12] at hg
        dsimp only at hg
        refine TT_call (me' := mt_X5_copyFrom) (as := [.ref 31, .ref 51]) (rest := []) (r1 := none) (h1 := (83, J14, R0 p)) rfl rfl (by rcases hp with rfl | rfl <;> rfl) (t_X5_copyFrom (Or.inl rfl) (Or.inr (Or.inr (Or.inr rfl))) hq12) ?_
        refine TT_go 6 (pc' := 48) (lv' := [(0, .ref 0)]) (st' := [.int (J14 0 12), .ref 53, .ref 40]) (h2 := (83, J14, R0 p)) (by rcases hp with rfl | rfl <;> rfl) ?_
        by_cases hb15 : inB (J14 0 12) 2 = true
        rotate_left
        · rw [if_neg hb15] at hg; cases hg
        rw [if_pos hb15] at hg
        refine TT_iald (n := 2) rfl (by rcases hp with rfl | rfl <;> rfl) hb15 ?_
        obtain ⟨x16, hx16⟩ : ∃ x : Int32, x = (J14 53 (Int32.toNatClampNeg (J14 0 12))) := ⟨_, rfl⟩
        replace hg := bnd_use hx16 hg
        refine TT_go 0 (pc' := 49) (lv' := [(0, .ref 0)]) (st' := [.int x16, .ref 40]) (h2 := (83, J14, R0 p)) (by subst hx16; rcases hp with rfl | rfl <;> rfl) ?_
        obtain ⟨J17, hJ17⟩ : ∃ x : IH, x = (up2 J14 40 0 x16) := ⟨_, rfl⟩
        replace hg := bnd_use hJ17 hg
        refine TT_go 1 (pc' := 52) (lv' := [(0, .ref 0)]) (st' := []) (h2 := (83, J17, R0 p)) (by subst hJ17; rcases hp with rfl | rfl <;> rfl) ?_
        obtain ⟨J18, hJ18⟩ : ∃ x : IH, x = (up2 J17 35 0 0) := ⟨_, rfl⟩
        replace hg := bnd_use hJ18 hg
        refine TT_go 4 (pc' := 60) (lv' := [(0, .ref 0)]) (st' := []) (h2 := (83, J18, R0 p)) (by subst hJ18; rcases hp with rfl | rfl <;> rfl) ?_
        refine TT_go 2 (pc' := 64) (lv' := [(0, .ref 0)]) (st' := [.int (J18 0 12)]) (h2 := (83, J18, R0 p)) (by rcases hp with rfl | rfl <;> rfl) ?_
        have hg := Option.some.inj hg
        subst hg
        exact TT_ret rfl rfl
    rw [if_neg hc11] at hg
    cases hg
  · rw [if_neg hc1] at hg
    refine TT_zgt_f (t := 10) rfl rfl hc1 ?_
    refine TT_go 1 (pc' := 9) (lv' := [(0, .ref 0)]) (st' := [.int (-2)]) (h2 := (83, I, R0 p)) (by rcases hp with rfl | rfl <;> rfl) ?_
    have hg := Option.some.inj hg
    subst hg
    exact TT_ret rfl rfl
def g_X8_count (n : Nat) (p : Nat) (a0 : Int32) (I : IH) : Option (Int32 × IH) :=
  if a0 = 0 then
    some ((I p 0), I)
  else if a0 = 1 then
    some ((I p 11), I)
  else if a0 = 2 then
    some ((I p 8), I)
  else if a0 = 3 then
    some ((I 31 2), I)
  else if a0 = 4 then
    some ((I 35 0), I)
  else if a0 = 5 then
    some ((I 40 0), I)
  else if a0 = 6 then
    some ((I 1 1), I)
  else if a0 = 7 then
    some ((I 0 12), I)
  else
    some ((-1), I)
set_option maxRecDepth 20000 in
theorem t_X8_count {p : Nat} (hp : p = 5 ∨ p = 18) {n : Nat} {a0 : Int32} {I : IH} {w : Int32 × IH} (hg : g_X8_count n p a0 I = some w) : TT none mt_X8_count 0 (lv_args 0 [.ref 0, .int a0]) [] (83, I, R0 p) (some (.int w.1)) (83, w.2, R0 p) := by
  unfold g_X8_count at hg
  refine TT_go 1 (pc' := 1) (lv' := [(0, .ref 0), (1, .int a0)]) (st' := [.int a0]) (h2 := (83, I, R0 p)) (by rcases hp with rfl | rfl <;> rfl) ?_
  by_cases hc1 : a0 = 0
  · rw [if_pos hc1] at hg
    refine TT_tin (t := 48) (off := 47) rfl (by rw [hc1]; decide) (by rw [hc1]; rfl) rfl ?_
    refine TT_go 3 (pc' := 55) (lv' := [(0, .ref 0), (1, .int a0)]) (st' := [.int (I p 0)]) (h2 := (83, I, R0 p)) (by rcases hp with rfl | rfl <;> rfl) ?_
    have hg := Option.some.inj hg
    subst hg
    exact TT_ret rfl rfl
  rw [if_neg hc1] at hg
  by_cases hc2 : a0 = 1
  · rw [if_pos hc2] at hg
    refine TT_tin (t := 56) (off := 55) rfl (by rw [hc2]; decide) (by rw [hc2]; rfl) rfl ?_
    refine TT_go 3 (pc' := 63) (lv' := [(0, .ref 0), (1, .int a0)]) (st' := [.int (I p 11)]) (h2 := (83, I, R0 p)) (by rcases hp with rfl | rfl <;> rfl) ?_
    have hg := Option.some.inj hg
    subst hg
    exact TT_ret rfl rfl
  rw [if_neg hc2] at hg
  by_cases hc3 : a0 = 2
  · rw [if_pos hc3] at hg
    refine TT_tin (t := 64) (off := 63) rfl (by rw [hc3]; decide) (by rw [hc3]; rfl) rfl ?_
    refine TT_go 3 (pc' := 71) (lv' := [(0, .ref 0), (1, .int a0)]) (st' := [.int (I p 8)]) (h2 := (83, I, R0 p)) (by rcases hp with rfl | rfl <;> rfl) ?_
    have hg := Option.some.inj hg
    subst hg
    exact TT_ret rfl rfl
  rw [if_neg hc3] at hg
  by_cases hc4 : a0 = 3
  · rw [if_pos hc4] at hg
    refine TT_tin (t := 72) (off := 71) rfl (by rw [hc4]; decide) (by rw [hc4]; rfl) rfl ?_
    refine TT_go 3 (pc' := 79) (lv' := [(0, .ref 0), (1, .int a0)]) (st' := [.int (I 31 2)]) (h2 := (83, I, R0 p)) (by rcases hp with rfl | rfl <;> rfl) ?_
    have hg := Option.some.inj hg
    subst hg
    exact TT_ret rfl rfl
  rw [if_neg hc4] at hg
  by_cases hc5 : a0 = 4
  · rw [if_pos hc5] at hg
    refine TT_tin (t := 80) (off := 79) rfl (by rw [hc5]; decide) (by rw [hc5]; rfl) rfl ?_
    refine TT_go 3 (pc' := 87) (lv' := [(0, .ref 0), (1, .int a0)]) (st' := [.int (I 35 0)]) (h2 := (83, I, R0 p)) (by rcases hp with rfl | rfl <;> rfl) ?_
    have hg := Option.some.inj hg
    subst hg
    exact TT_ret rfl rfl
  rw [if_neg hc5] at hg
  by_cases hc6 : a0 = 5
  · rw [if_pos hc6] at hg
    refine TT_tin (t := 88) (off := 87) rfl (by rw [hc6]; decide) (by rw [hc6]; rfl) rfl ?_
    refine TT_go 3 (pc' := 95) (lv' := [(0, .ref 0), (1, .int a0)]) (st' := [.int (I 40 0)]) (h2 := (83, I, R0 p)) (by rcases hp with rfl | rfl <;> rfl) ?_
    have hg := Option.some.inj hg
    subst hg
    exact TT_ret rfl rfl
  rw [if_neg hc6] at hg
  by_cases hc7 : a0 = 6
  · rw [if_pos hc7] at hg
    refine TT_tin (t := 96) (off := 95) rfl (by rw [hc7]; decide) (by rw [hc7]; rfl) rfl ?_
    refine TT_go 3 (pc' := 103) (lv' := [(0, .ref 0), (1, .int a0)]) (st' := [.int (I 1 1)]) (h2 := (83, I, R0 p)) (by rcases hp with rfl | rfl <;> rfl) ?_
    have hg := Option.some.inj hg
    subst hg
    exact TT_ret rfl rfl
  rw [if_neg hc7] at hg
  by_cases hc8 : a0 = 7
  · rw [if_pos hc8] at hg
    refine TT_tin (t := 104) (off := 103) rfl (by rw [hc8]; decide) (by rw [hc8]; rfl) rfl ?_
    refine TT_go 2 (pc' := 108) (lv' := [(0, .ref 0), (1, .int a0)]) (st' := [.int (I 0 12)]) (h2 := (83, I, R0 p)) (by rcases hp with rfl | rfl <;> rfl) ?_
    have hg := Option.some.inj hg
    subst hg
    exact TT_ret rfl rfl
  rw [if_neg hc8] at hg
  refine TT_tout (t := 109) rfl (by have e0 := lv_neT (a := 0) hc1 (by decide); have e1 := lv_neT (a := 1) hc2 (by decide); have e2 := lv_neT (a := 2) hc3 (by decide); have e3 := lv_neT (a := 3) hc4 (by decide); have e4 := lv_neT (a := 4) hc5 (by decide); have e5 := lv_neT (a := 5) hc6 (by decide); have e6 := lv_neT (a := 6) hc7 (by decide); have e7 := lv_neT (a := 7) hc8 (by decide); omega) rfl ?_
  refine TT_go 1 (pc' := 110) (lv' := [(0, .ref 0), (1, .int a0)]) (st' := [.int (-1)]) (h2 := (83, I, R0 p)) (by rcases hp with rfl | rfl <;> rfl) ?_
  have hg := Option.some.inj hg
  subst hg
  exact TT_ret rfl rfl
def g_X9_noShelf (n : Nat) (a0 : Int32) (I : IH) : Option (IH) :=
  if inB a0 2 = true then
    bnd (up2 I 57 (Int32.toNatClampNeg a0) 0) fun J2 =>
    if inB a0 2 = true then
      bnd (up2 J2 65 (Int32.toNatClampNeg a0) 0) fun J4 =>
      if inB a0 2 = true then
        bnd (up2 J4 68 (Int32.toNatClampNeg a0) 0) fun J6 =>
        if inB a0 2 = true then
          bnd (up2 J6 72 (Int32.toNatClampNeg a0) 0) fun J8 =>
          if inB a0 2 = true then
            bnd (up2 J8 73 (Int32.toNatClampNeg a0) 0) fun J10 =>
            some J10
          else none
        else none
      else none
    else none
  else none
set_option maxRecDepth 20000 in
theorem t_X9_noShelf {p : Nat} {n : Nat} {a0 : Int32} {I : IH} {w : IH} (hg : g_X9_noShelf n a0 I = some w) : TT none mt_X9_noShelf 0 (lv_args 0 [.ref 55, .int a0]) [] (83, I, R0 p) none (83, w, R0 p) := by
  unfold g_X9_noShelf at hg
  refine TT_go 4 (pc' := 6) (lv' := [(0, .ref 55), (1, .int a0)]) (st' := [.int 0, .int a0, .ref 57]) (h2 := (83, I, R0 p)) (by rfl) ?_
  by_cases hb1 : inB a0 2 = true
  rotate_left
  · rw [if_neg hb1] at hg; cases hg
  rw [if_pos hb1] at hg
  refine TT_iast (n := 2) rfl (by rfl) hb1 ?_
  obtain ⟨J2, hJ2⟩ : ∃ x : IH, x = (up2 I 57 (Int32.toNatClampNeg a0) 0) := ⟨_, rfl⟩
  replace hg := bnd_use hJ2 hg
  refine TT_go 0 (pc' := 7) (lv' := [(0, .ref 55), (1, .int a0)]) (st' := []) (h2 := (83, J2, R0 p)) (by subst hJ2; rfl) ?_
  refine TT_go 4 (pc' := 13) (lv' := [(0, .ref 55), (1, .int a0)]) (st' := [.int 0, .int a0, .ref 65]) (h2 := (83, J2, R0 p)) (by rfl) ?_
  by_cases hb3 : inB a0 2 = true
  rotate_left
  · rw [if_neg hb3] at hg; cases hg
  rw [if_pos hb3] at hg
  refine TT_iast (n := 2) rfl (by rfl) hb3 ?_
  obtain ⟨J4, hJ4⟩ : ∃ x : IH, x = (up2 J2 65 (Int32.toNatClampNeg a0) 0) := ⟨_, rfl⟩
  replace hg := bnd_use hJ4 hg
  refine TT_go 0 (pc' := 14) (lv' := [(0, .ref 55), (1, .int a0)]) (st' := []) (h2 := (83, J4, R0 p)) (by subst hJ4; rfl) ?_
  refine TT_go 4 (pc' := 20) (lv' := [(0, .ref 55), (1, .int a0)]) (st' := [.int 0, .int a0, .ref 68]) (h2 := (83, J4, R0 p)) (by rfl) ?_
  by_cases hb5 : inB a0 2 = true
  rotate_left
  · rw [if_neg hb5] at hg; cases hg
  rw [if_pos hb5] at hg
  refine TT_iast (n := 2) rfl (by rfl) hb5 ?_
  obtain ⟨J6, hJ6⟩ : ∃ x : IH, x = (up2 J4 68 (Int32.toNatClampNeg a0) 0) := ⟨_, rfl⟩
  replace hg := bnd_use hJ6 hg
  refine TT_go 0 (pc' := 21) (lv' := [(0, .ref 55), (1, .int a0)]) (st' := []) (h2 := (83, J6, R0 p)) (by subst hJ6; rfl) ?_
  refine TT_go 4 (pc' := 27) (lv' := [(0, .ref 55), (1, .int a0)]) (st' := [.int 0, .int a0, .ref 72]) (h2 := (83, J6, R0 p)) (by rfl) ?_
  by_cases hb7 : inB a0 2 = true
  rotate_left
  · rw [if_neg hb7] at hg; cases hg
  rw [if_pos hb7] at hg
  refine TT_iast (n := 2) rfl (by rfl) hb7 ?_
  obtain ⟨J8, hJ8⟩ : ∃ x : IH, x = (up2 J6 72 (Int32.toNatClampNeg a0) 0) := ⟨_, rfl⟩
  replace hg := bnd_use hJ8 hg
  refine TT_go 0 (pc' := 28) (lv' := [(0, .ref 55), (1, .int a0)]) (st' := []) (h2 := (83, J8, R0 p)) (by subst hJ8; rfl) ?_
  refine TT_go 4 (pc' := 34) (lv' := [(0, .ref 55), (1, .int a0)]) (st' := [.int 0, .int a0, .ref 73]) (h2 := (83, J8, R0 p)) (by rfl) ?_
  by_cases hb9 : inB a0 2 = true
  rotate_left
  · rw [if_neg hb9] at hg; cases hg
  rw [if_pos hb9] at hg
  refine TT_iast (n := 2) rfl (by rfl) hb9 ?_
  obtain ⟨J10, hJ10⟩ : ∃ x : IH, x = (up2 J8 73 (Int32.toNatClampNeg a0) 0) := ⟨_, rfl⟩
  replace hg := bnd_use hJ10 hg
  refine TT_go 0 (pc' := 35) (lv' := [(0, .ref 55), (1, .int a0)]) (st' := []) (h2 := (83, J10, R0 p)) (by subst hJ10; rfl) ?_
  have hg := Option.some.inj hg
  subst hg
  exact TT_ret rfl rfl
def g_X9_layShelf_65 (n : Nat) (k2 : Int32 → IH → Option (IH)) (v1 : Int32) (t0 : Int32) (t1 : Int32) (I : IH) : Option (IH) :=
  if inB t1 64 = true then
    bnd (up2 I 74 (Int32.toNatClampNeg t1) t0) fun J13 =>
    if inB v1 32 = true then
      bnd (up2 J13 75 (Int32.toNatClampNeg v1) 0) fun J15 =>
      bnd (v1 + 1) fun x16 =>
      k2 x16 J15
    else none
  else none
set_option maxRecDepth 20000 in
theorem t_X9_layShelf_65 {p : Nat} {n : Nat} {k2 : Int32 → IH → Option (IH)} (hk2 : ∀ (v1 : Int32) (I : IH) (w : IH), k2 v1 I = some w → TT none mt_X9_layShelf 2 [(0, .ref 55), (1, .int v1)] [] (83, I, R0 p) none (83, w, R0 p)) {v1 : Int32} {t0 : Int32} {t1 : Int32} {I : IH} {w : IH} (hg : g_X9_layShelf_65 n k2 v1 t0 t1 I = some w) : TT none mt_X9_layShelf 65 [(0, .ref 55), (1, .int v1)] [.int t0, .int t1, .ref 74] (83, I, R0 p) none (83, w, R0 p) := by
  unfold g_X9_layShelf_65 at hg
  by_cases hb12 : inB t1 64 = true
  rotate_left
  · rw [if_neg hb12] at hg; cases hg
  rw [if_pos hb12] at hg
  refine TT_iast (n := 64) rfl (by rfl) hb12 ?_
  obtain ⟨J13, hJ13⟩ : ∃ x : IH, x = (up2 I 74 (Int32.toNatClampNeg t1) t0) := ⟨_, rfl⟩
  replace hg := bnd_use hJ13 hg
  refine TT_go 0 (pc' := 66) (lv' := [(0, .ref 55), (1, .int v1)]) (st' := []) (h2 := (83, J13, R0 p)) (by subst hJ13; rfl) ?_
  refine TT_go 4 (pc' := 72) (lv' := [(0, .ref 55), (1, .int v1)]) (st' := [.int 0, .int v1, .ref 75]) (h2 := (83, J13, R0 p)) (by rfl) ?_
  by_cases hb14 : inB v1 32 = true
  rotate_left
  · rw [if_neg hb14] at hg; cases hg
  rw [if_pos hb14] at hg
  refine TT_iast (n := 32) rfl (by rfl) hb14 ?_
  obtain ⟨J15, hJ15⟩ : ∃ x : IH, x = (up2 J13 75 (Int32.toNatClampNeg v1) 0) := ⟨_, rfl⟩
  replace hg := bnd_use hJ15 hg
  refine TT_go 0 (pc' := 73) (lv' := [(0, .ref 55), (1, .int v1)]) (st' := []) (h2 := (83, J15, R0 p)) (by subst hJ15; rfl) ?_
  obtain ⟨x16, hx16⟩ : ∃ x : Int32, x = (v1 + 1) := ⟨_, rfl⟩
  replace hg := bnd_use hx16 hg
  refine TT_go 1 (pc' := 76) (lv' := [(1, .int x16), (0, .ref 55)]) (st' := []) (h2 := (83, J15, R0 p)) (by subst hx16; rfl) ?_
  refine TT_go 1 (pc' := 2) (lv' := [(1, .int x16), (0, .ref 55)]) (st' := []) (h2 := (83, J15, R0 p)) (by rfl) ?_
  refine TT_sub (lv2 := [(0, .ref 55), (1, .int x16)]) rfl rfl ⟨rfl, rfl, trivial⟩ ?_
  exact hk2 x16 _ _ hg
def g_X9_layShelf_35 (n : Nat) (k2 : Int32 → IH → Option (IH)) (v1 : Int32) (t0 : Int32) (t1 : Int32) (I : IH) : Option (IH) :=
  if inB t1 64 = true then
    bnd (up2 I 74 (Int32.toNatClampNeg t1) t0) fun J9 =>
    bnd (J9 57 0) fun x10 =>
    if x10 ≤ v1 then
      g_X9_layShelf_65 n k2 v1 0 (((2 * v1) + 1)) J9
    else
      if inB v1 16 = true then
        bnd (J9 63 (Int32.toNatClampNeg v1)) fun x18 =>
        g_X9_layShelf_65 n k2 v1 x18 (((2 * v1) + 1)) J9
      else none
  else none
set_option maxRecDepth 20000 in
theorem t_X9_layShelf_35 {p : Nat} {n : Nat} {k2 : Int32 → IH → Option (IH)} (hk2 : ∀ (v1 : Int32) (I : IH) (w : IH), k2 v1 I = some w → TT none mt_X9_layShelf 2 [(0, .ref 55), (1, .int v1)] [] (83, I, R0 p) none (83, w, R0 p)) {v1 : Int32} {t0 : Int32} {t1 : Int32} {I : IH} {w : IH} (hg : g_X9_layShelf_35 n k2 v1 t0 t1 I = some w) : TT none mt_X9_layShelf 35 [(0, .ref 55), (1, .int v1)] [.int t0, .int t1, .ref 74] (83, I, R0 p) none (83, w, R0 p) := by
  unfold g_X9_layShelf_35 at hg
  by_cases hb8 : inB t1 64 = true
  rotate_left
  · rw [if_neg hb8] at hg; cases hg
  rw [if_pos hb8] at hg
  refine TT_iast (n := 64) rfl (by rfl) hb8 ?_
  obtain ⟨J9, hJ9⟩ : ∃ x : IH, x = (up2 I 74 (Int32.toNatClampNeg t1) t0) := ⟨_, rfl⟩
  replace hg := bnd_use hJ9 hg
  refine TT_go 0 (pc' := 36) (lv' := [(0, .ref 55), (1, .int v1)]) (st' := []) (h2 := (83, J9, R0 p)) (by subst hJ9; rfl) ?_
  obtain ⟨x10, hx10⟩ : ∃ x : Int32, x = (J9 57 0) := ⟨_, rfl⟩
  replace hg := bnd_use hx10 hg
  refine TT_go 12 (pc' := 52) (lv' := [(0, .ref 55), (1, .int v1)]) (st' := [.int x10, .int v1, .int ((2 * v1) + 1), .ref 74]) (h2 := (83, J9, R0 p)) (by subst hx10; rfl) ?_
  by_cases hc11 : x10 ≤ v1
  · rw [if_pos hc11] at hg
    refine TT_ige_t (t := 64) rfl rfl hc11 ?_
    refine TT_go 1 (pc' := 65) (lv' := [(0, .ref 55), (1, .int v1)]) (st' := [.int 0, .int ((2 * v1) + 1), .ref 74]) (h2 := (83, J9, R0 p)) (by rfl) ?_
    refine TT_sub (lv2 := [(0, .ref 55), (1, .int v1)]) rfl rfl ⟨rfl, rfl, trivial⟩ ?_
    exact t_X9_layShelf_65 hk2 hg
  · rw [if_neg hc11] at hg
    refine TT_ige_f (t := 64) rfl rfl hc11 ?_
    refine TT_go 3 (pc' := 60) (lv' := [(0, .ref 55), (1, .int v1)]) (st' := [.int v1, .ref 63, .int ((2 * v1) + 1), .ref 74]) (h2 := (83, J9, R0 p)) (by rfl) ?_
    by_cases hb17 : inB v1 16 = true
    rotate_left
    · rw [if_neg hb17] at hg; cases hg
    rw [if_pos hb17] at hg
    refine TT_iald (n := 16) rfl (by rfl) hb17 ?_
    obtain ⟨x18, hx18⟩ : ∃ x : Int32, x = (J9 63 (Int32.toNatClampNeg v1)) := ⟨_, rfl⟩
    replace hg := bnd_use hx18 hg
    refine TT_go 0 (pc' := 61) (lv' := [(0, .ref 55), (1, .int v1)]) (st' := [.int x18, .int ((2 * v1) + 1), .ref 74]) (h2 := (83, J9, R0 p)) (by subst hx18; rfl) ?_
    refine TT_go 1 (pc' := 65) (lv' := [(0, .ref 55), (1, .int v1)]) (st' := [.int x18, .int ((2 * v1) + 1), .ref 74]) (h2 := (83, J9, R0 p)) (by rfl) ?_
    refine TT_sub (lv2 := [(0, .ref 55), (1, .int v1)]) rfl rfl ⟨rfl, rfl, trivial⟩ ?_
    exact t_X9_layShelf_65 hk2 hg
def g_X9_layShelf_2 : Nat → Int32 → IH → Option (IH)
  | 0, _, _ => none
  | n + 1, v1, I =>
    if 8 ≤ v1 then
      bnd (up2 I 76 0 0) fun J2 =>
      bnd (up2 J2 77 0 0) fun J3 =>
      bnd (up2 J3 55 24 0) fun J4 =>
      bnd (up2 J4 55 25 0) fun J5 =>
      some J5
    else
      bnd (I 57 0) fun x6 =>
      if x6 ≤ v1 then
        g_X9_layShelf_35 n (g_X9_layShelf_2 n) v1 0 ((2 * v1)) I
      else
        if inB v1 16 = true then
          bnd (I 62 (Int32.toNatClampNeg v1)) fun x20 =>
          g_X9_layShelf_35 n (g_X9_layShelf_2 n) v1 x20 ((2 * v1)) I
        else none
set_option maxRecDepth 20000 in
theorem t_X9_layShelf_2 {p : Nat} : ∀ (n : Nat) (v1 : Int32) (I : IH) (w : IH), g_X9_layShelf_2 n v1 I = some w → TT none mt_X9_layShelf 2 [(0, .ref 55), (1, .int v1)] [] (83, I, R0 p) none (83, w, R0 p) := by
  intro n
  induction n with
  | zero => intro v1 I w hg; cases hg
  | succ n ih =>
    intro v1 I w hg
    unfold g_X9_layShelf_2 at hg
    refine TT_go 2 (pc' := 5) (lv' := [(0, .ref 55), (1, .int v1)]) (st' := [.int 8, .int v1]) (h2 := (83, I, R0 p)) (by rfl) ?_
    by_cases hc1 : 8 ≤ v1
    · rw [if_pos hc1] at hg
      refine TT_ige_t (t := 79) rfl rfl hc1 ?_
      obtain ⟨J2, hJ2⟩ : ∃ x : IH, x = (up2 I 76 0 0) := ⟨_, rfl⟩
      replace hg := bnd_use hJ2 hg
      refine TT_go 5 (pc' := 86) (lv' := [(0, .ref 55), (1, .int v1)]) (st' := []) (h2 := (83, J2, R0 p)) (by subst hJ2; rfl) ?_
      obtain ⟨J3, hJ3⟩ : ∃ x : IH, x = (up2 J2 77 0 0) := ⟨_, rfl⟩
      replace hg := bnd_use hJ3 hg
      refine TT_go 5 (pc' := 93) (lv' := [(0, .ref 55), (1, .int v1)]) (st' := []) (h2 := (83, J3, R0 p)) (by subst hJ3; rfl) ?_
      obtain ⟨J4, hJ4⟩ : ∃ x : IH, x = (up2 J3 55 24 0) := ⟨_, rfl⟩
      replace hg := bnd_use hJ4 hg
      refine TT_go 3 (pc' := 98) (lv' := [(0, .ref 55), (1, .int v1)]) (st' := []) (h2 := (83, J4, R0 p)) (by subst hJ4; rfl) ?_
      obtain ⟨J5, hJ5⟩ : ∃ x : IH, x = (up2 J4 55 25 0) := ⟨_, rfl⟩
      replace hg := bnd_use hJ5 hg
      refine TT_go 3 (pc' := 103) (lv' := [(0, .ref 55), (1, .int v1)]) (st' := []) (h2 := (83, J5, R0 p)) (by subst hJ5; rfl) ?_
      have hg := Option.some.inj hg
      subst hg
      exact TT_ret rfl rfl
    · rw [if_neg hc1] at hg
      refine TT_ige_f (t := 79) rfl rfl hc1 ?_
      obtain ⟨x6, hx6⟩ : ∃ x : Int32, x = (I 57 0) := ⟨_, rfl⟩
      replace hg := bnd_use hx6 hg
      refine TT_go 10 (pc' := 22) (lv' := [(0, .ref 55), (1, .int v1)]) (st' := [.int x6, .int v1, .int (2 * v1), .ref 74]) (h2 := (83, I, R0 p)) (by subst hx6; rfl) ?_
      by_cases hc7 : x6 ≤ v1
      · rw [if_pos hc7] at hg
        refine TT_ige_t (t := 34) rfl rfl hc7 ?_
        refine TT_go 1 (pc' := 35) (lv' := [(0, .ref 55), (1, .int v1)]) (st' := [.int 0, .int (2 * v1), .ref 74]) (h2 := (83, I, R0 p)) (by rfl) ?_
        refine TT_sub (lv2 := [(0, .ref 55), (1, .int v1)]) rfl rfl ⟨rfl, rfl, trivial⟩ ?_
        exact t_X9_layShelf_35 ih hg
      · rw [if_neg hc7] at hg
        refine TT_ige_f (t := 34) rfl rfl hc7 ?_
        refine TT_go 3 (pc' := 30) (lv' := [(0, .ref 55), (1, .int v1)]) (st' := [.int v1, .ref 62, .int (2 * v1), .ref 74]) (h2 := (83, I, R0 p)) (by rfl) ?_
        by_cases hb19 : inB v1 16 = true
        rotate_left
        · rw [if_neg hb19] at hg; cases hg
        rw [if_pos hb19] at hg
        refine TT_iald (n := 16) rfl (by rfl) hb19 ?_
        obtain ⟨x20, hx20⟩ : ∃ x : Int32, x = (I 62 (Int32.toNatClampNeg v1)) := ⟨_, rfl⟩
        replace hg := bnd_use hx20 hg
        refine TT_go 0 (pc' := 31) (lv' := [(0, .ref 55), (1, .int v1)]) (st' := [.int x20, .int (2 * v1), .ref 74]) (h2 := (83, I, R0 p)) (by subst hx20; rfl) ?_
        refine TT_go 1 (pc' := 35) (lv' := [(0, .ref 55), (1, .int v1)]) (st' := [.int x20, .int (2 * v1), .ref 74]) (h2 := (83, I, R0 p)) (by rfl) ?_
        refine TT_sub (lv2 := [(0, .ref 55), (1, .int v1)]) rfl rfl ⟨rfl, rfl, trivial⟩ ?_
        exact t_X9_layShelf_35 ih hg
def g_X9_layShelf (n : Nat) (I : IH) : Option (IH) :=
  g_X9_layShelf_2 n 0 I
set_option maxRecDepth 20000 in
theorem t_X9_layShelf {p : Nat} {n : Nat} {I : IH} {w : IH} (hg : g_X9_layShelf n I = some w) : TT none mt_X9_layShelf 0 (lv_args 0 [.ref 55]) [] (83, I, R0 p) none (83, w, R0 p) := by
  unfold g_X9_layShelf at hg
  refine TT_go 2 (pc' := 2) (lv' := [(1, .int 0), (0, .ref 55)]) (st' := []) (h2 := (83, I, R0 p)) (by rfl) ?_
  refine TT_sub (lv2 := [(0, .ref 55), (1, .int 0)]) rfl rfl ⟨rfl, rfl, trivial⟩ ?_
  exact t_X9_layShelf_2 n 0 _ _ hg
def g_X9_in (n : Nat) (a0 : Int64) (a1 : Int64) (a2 : Int64) (I : IH) : Option (Int32 × IH) :=
  if (lg_cmp a0 a1) < 0 then
    some (0, I)
  else
    if 0 < (lg_cmp a0 a2) then
      some (0, I)
    else
      some (1, I)
set_option maxRecDepth 20000 in
theorem t_X9_in {p : Nat} {n : Nat} {a0 : Int64} {a1 : Int64} {a2 : Int64} {I : IH} {w : Int32 × IH} (hg : g_X9_in n a0 a1 a2 I = some w) : TT none mt_X9_in 0 (lv_args 0 [.long a0, .long a1, .long a2]) [] (83, I, R0 p) (some (.int w.1)) (83, w.2, R0 p) := by
  unfold g_X9_in at hg
  refine TT_go 3 (pc' := 3) (lv' := [(0, .long a0), (2, .long a1), (4, .long a2)]) (st' := [.int (lg_cmp a0 a1)]) (h2 := (83, I, R0 p)) (by rfl) ?_
  by_cases hc1 : (lg_cmp a0 a1) < 0
  · rw [if_pos hc1] at hg
    refine TT_zlt_t (t := 17) rfl rfl hc1 ?_
    refine TT_go 1 (pc' := 18) (lv' := [(0, .long a0), (2, .long a1), (4, .long a2)]) (st' := [.int 0]) (h2 := (83, I, R0 p)) (by rfl) ?_
    have hg := Option.some.inj hg
    subst hg
    exact TT_ret rfl rfl
  · rw [if_neg hc1] at hg
    refine TT_zlt_f (t := 17) rfl rfl hc1 ?_
    refine TT_go 3 (pc' := 10) (lv' := [(0, .long a0), (2, .long a1), (4, .long a2)]) (st' := [.int (lg_cmp a0 a2)]) (h2 := (83, I, R0 p)) (by rfl) ?_
    by_cases hc2 : 0 < (lg_cmp a0 a2)
    · rw [if_pos hc2] at hg
      refine TT_zgt_t (t := 17) rfl rfl hc2 ?_
      refine TT_go 1 (pc' := 18) (lv' := [(0, .long a0), (2, .long a1), (4, .long a2)]) (st' := [.int 0]) (h2 := (83, I, R0 p)) (by rfl) ?_
      have hg := Option.some.inj hg
      subst hg
      exact TT_ret rfl rfl
    · rw [if_neg hc2] at hg
      refine TT_zgt_f (t := 17) rfl rfl hc2 ?_
      refine TT_go 2 (pc' := 18) (lv' := [(0, .long a0), (2, .long a1), (4, .long a2)]) (st' := [.int 1]) (h2 := (83, I, R0 p)) (by rfl) ?_
      have hg := Option.some.inj hg
      subst hg
      exact TT_ret rfl rfl
def g_X9_has1 (n : Nat) (a0 : Int32) (a1 : Int32) (I : IH) : Option (Int32 × IH) :=
  if ((a0 >>> (a1 &&& 31)) &&& 1) = 1 then
    some (1, I)
  else
    some (0, I)
set_option maxRecDepth 20000 in
theorem t_X9_has1 {p : Nat} {n : Nat} {a0 : Int32} {a1 : Int32} {I : IH} {w : Int32 × IH} (hg : g_X9_has1 n a0 a1 I = some w) : TT none mt_X9_has1 0 (lv_args 0 [.int a0, .int a1]) [] (83, I, R0 p) (some (.int w.1)) (83, w.2, R0 p) := by
  unfold g_X9_has1 at hg
  refine TT_go 6 (pc' := 6) (lv' := [(0, .int a0), (1, .int a1)]) (st' := [.int 1, .int ((a0 >>> (a1 &&& 31)) &&& 1)]) (h2 := (83, I, R0 p)) (by rfl) ?_
  by_cases hc1 : ((a0 >>> (a1 &&& 31)) &&& 1) = 1
  · rw [if_pos hc1] at hg
    refine TT_ine_f (t := 13) rfl rfl hc1 ?_
    refine TT_go 2 (pc' := 14) (lv' := [(0, .int a0), (1, .int a1)]) (st' := [.int 1]) (h2 := (83, I, R0 p)) (by rfl) ?_
    have hg := Option.some.inj hg
    subst hg
    exact TT_ret rfl rfl
  · rw [if_neg hc1] at hg
    refine TT_ine_t (t := 13) rfl rfl hc1 ?_
    refine TT_go 1 (pc' := 14) (lv' := [(0, .int a0), (1, .int a1)]) (st' := [.int 0]) (h2 := (83, I, R0 p)) (by rfl) ?_
    have hg := Option.some.inj hg
    subst hg
    exact TT_ret rfl rfl
def g_X9_write_34 : Nat → Int64 → Int32 → IH → Option (Int32 × IH)
  | 0, _, _, _ => none
  | n + 1, v2, v4, I =>
    if v4 < 0 then
      some ((I 55 0), I)
    else
      if inB (I 55 0) 400 = true then
        bnd (up2 I 56 (Int32.toNatClampNeg (I 55 0)) (Int64.toInt32 ((v2 >>> (Int32.toInt64 (8 * v4) &&& 63)) &&& 255))) fun J10 =>
        bnd (up2 J10 55 0 ((J10 55 0) + 1)) fun J11 =>
        bnd (v4 + (-1)) fun x12 =>
        g_X9_write_34 n v2 x12 J11
      else none
set_option maxRecDepth 20000 in
theorem t_X9_write_34 {p : Nat} : ∀ (n : Nat) (v2 : Int64) (v4 : Int32) (I : IH) (w : Int32 × IH), g_X9_write_34 n v2 v4 I = some w → TT none mt_X9_write 34 [(0, .ref 55), (2, .long v2), (4, .int v4)] [] (83, I, R0 p) (some (.int w.1)) (83, w.2, R0 p) := by
  intro n
  induction n with
  | zero => intro v2 v4 I w hg; cases hg
  | succ n ih =>
    intro v2 v4 I w hg
    unfold g_X9_write_34 at hg
    refine TT_go 1 (pc' := 36) (lv' := [(0, .ref 55), (2, .long v2), (4, .int v4)]) (st' := [.int v4]) (h2 := (83, I, R0 p)) (by rfl) ?_
    by_cases hc8 : v4 < 0
    · rw [if_pos hc8] at hg
      refine TT_zlt_t (t := 76) rfl rfl hc8 ?_
      refine TT_go 2 (pc' := 80) (lv' := [(0, .ref 55), (2, .long v2), (4, .int v4)]) (st' := [.int (I 55 0)]) (h2 := (83, I, R0 p)) (by rfl) ?_
      have hg := Option.some.inj hg
      subst hg
      exact TT_ret rfl rfl
    · rw [if_neg hc8] at hg
      refine TT_zlt_f (t := 76) rfl rfl hc8 ?_
      refine TT_go 12 (pc' := 59) (lv' := [(0, .ref 55), (2, .long v2), (4, .int v4)]) (st' := [.int (Int64.toInt32 ((v2 >>> (Int32.toInt64 (8 * v4) &&& 63)) &&& 255)), .int (I 55 0), .ref 56]) (h2 := (83, I, R0 p)) (by rfl) ?_
      by_cases hb9 : inB (I 55 0) 400 = true
      rotate_left
      · rw [if_neg hb9] at hg; cases hg
      rw [if_pos hb9] at hg
      refine TT_iast (n := 400) rfl (by rfl) hb9 ?_
      obtain ⟨J10, hJ10⟩ : ∃ x : IH, x = (up2 I 56 (Int32.toNatClampNeg (I 55 0)) (Int64.toInt32 ((v2 >>> (Int32.toInt64 (8 * v4) &&& 63)) &&& 255))) := ⟨_, rfl⟩
      replace hg := bnd_use hJ10 hg
      refine TT_go 0 (pc' := 60) (lv' := [(0, .ref 55), (2, .long v2), (4, .int v4)]) (st' := []) (h2 := (83, J10, R0 p)) (by subst hJ10; rfl) ?_
      obtain ⟨J11, hJ11⟩ : ∃ x : IH, x = (up2 J10 55 0 ((J10 55 0) + 1)) := ⟨_, rfl⟩
      replace hg := bnd_use hJ11 hg
      refine TT_go 6 (pc' := 70) (lv' := [(0, .ref 55), (2, .long v2), (4, .int v4)]) (st' := []) (h2 := (83, J11, R0 p)) (by subst hJ11; rfl) ?_
      obtain ⟨x12, hx12⟩ : ∃ x : Int32, x = (v4 + (-1)) := ⟨_, rfl⟩
      replace hg := bnd_use hx12 hg
      refine TT_go 1 (pc' := 73) (lv' := [(4, .int x12), (0, .ref 55), (2, .long v2)]) (st' := []) (h2 := (83, J11, R0 p)) (by subst hx12; rfl) ?_
      refine TT_go 1 (pc' := 34) (lv' := [(4, .int x12), (0, .ref 55), (2, .long v2)]) (st' := []) (h2 := (83, J11, R0 p)) (by rfl) ?_
      refine TT_sub (lv2 := [(0, .ref 55), (2, .long v2), (4, .int x12)]) rfl rfl ⟨rfl, rfl, rfl, trivial⟩ ?_
      exact ih v2 x12 _ _ hg
def g_X9_write (n : Nat) (a0 : Int32) (a1 : Int64) (I : IH) : Option (Int32 × IH) :=
  match g_X9_in n (Int32.toInt64 a0) 1 8 I with
  | none => none
  | some (r4, J3) =>
    if r4 = 0 then
      some ((-1), J3)
    else
      if ((J3 55 0) + a0) ≤ 400 then
        bnd ((a0 - 1)) fun x7 =>
        g_X9_write_34 n a1 x7 J3
      else
        some ((-3), J3)
set_option maxRecDepth 20000 in
theorem t_X9_write {p : Nat} {n : Nat} {a0 : Int32} {a1 : Int64} {I : IH} {w : Int32 × IH} (hg : g_X9_write n a0 a1 I = some w) : TT none mt_X9_write 0 (lv_args 0 [.ref 55, .int a0, .long a1]) [] (83, I, R0 p) (some (.int w.1)) (83, w.2, R0 p) := by
  unfold g_X9_write at hg
  refine TT_go 4 (pc' := 6) (lv' := [(0, .ref 55), (1, .int a0), (2, .long a1)]) (st' := [.long 8, .long 1, .long (Int32.toInt64 a0)]) (h2 := (83, I, R0 p)) (by rfl) ?_
  cases hq1 : g_X9_in n (Int32.toInt64 a0) 1 8 I with
  | none => rw [hq1] at hg; cases hg
  | some w2 =>
    obtain ⟨r4, J3⟩ := w2
    rw [hq1] at hg
    dsimp only at hg
    refine TT_call (me' := mt_X9_in) (as := [.long (Int32.toInt64 a0), .long 1, .long 8]) (rest := []) (r1 := some (.int r4)) (h1 := (83, J3, R0 p)) rfl rfl (by rfl) (t_X9_in hq1) ?_
    refine TT_go 0 (pc' := 9) (lv' := [(0, .ref 55), (1, .int a0), (2, .long a1)]) (st' := [.int r4]) (h2 := (83, J3, R0 p)) (by rfl) ?_
    by_cases hc5 : r4 = 0
    · rw [if_pos hc5] at hg
      refine TT_zne_f (t := 14) rfl rfl hc5 ?_
      refine TT_go 1 (pc' := 13) (lv' := [(0, .ref 55), (1, .int a0), (2, .long a1)]) (st' := [.int (-1)]) (h2 := (83, J3, R0 p)) (by rfl) ?_
      have hg := Option.some.inj hg
      subst hg
      exact TT_ret rfl rfl
    · rw [if_neg hc5] at hg
      refine TT_zne_t (t := 14) rfl rfl hc5 ?_
      refine TT_go 5 (pc' := 23) (lv' := [(0, .ref 55), (1, .int a0), (2, .long a1)]) (st' := [.int 400, .int ((J3 55 0) + a0)]) (h2 := (83, J3, R0 p)) (by rfl) ?_
      by_cases hc6 : ((J3 55 0) + a0) ≤ 400
      · rw [if_pos hc6] at hg
        refine TT_ile_t (t := 29) rfl rfl hc6 ?_
        obtain ⟨x7, hx7⟩ : ∃ x : Int32, x = ((a0 - 1)) := ⟨_, rfl⟩
        replace hg := bnd_use hx7 hg
        refine TT_go 4 (pc' := 34) (lv' := [(4, .int x7), (0, .ref 55), (1, .int a0), (2, .long a1)]) (st' := []) (h2 := (83, J3, R0 p)) (by subst hx7; rfl) ?_
        refine TT_sub (lv2 := [(0, .ref 55), (2, .long a1), (4, .int x7)]) rfl rfl ⟨rfl, rfl, rfl, trivial⟩ ?_
        exact t_X9_write_34 n a1 x7 _ _ hg
      · rw [if_neg hc6] at hg
        refine TT_ile_f (t := 29) rfl rfl hc6 ?_
        refine TT_go 1 (pc' := 28) (lv' := [(0, .ref 55), (1, .int a0), (2, .long a1)]) (st' := [.int (-3)]) (h2 := (83, J3, R0 p)) (by rfl) ?_
        have hg := Option.some.inj hg
        subst hg
        exact TT_ret rfl rfl
def g_X9_wipe (n : Nat) (I : IH) : Option (Int32 × IH) :=
  bnd ((I 55 0)) fun x1 =>
  bnd (up2 I 55 0 0) fun J2 =>
  some (x1, J2)
set_option maxRecDepth 20000 in
theorem t_X9_wipe {p : Nat} {n : Nat} {I : IH} {w : Int32 × IH} (hg : g_X9_wipe n I = some w) : TT none mt_X9_wipe 0 (lv_args 0 [.ref 55]) [] (83, I, R0 p) (some (.int w.1)) (83, w.2, R0 p) := by
  unfold g_X9_wipe at hg
  obtain ⟨x1, hx1⟩ : ∃ x : Int32, x = ((I 55 0)) := ⟨_, rfl⟩
  replace hg := bnd_use hx1 hg
  refine TT_go 3 (pc' := 5) (lv' := [(1, .int x1), (0, .ref 55)]) (st' := []) (h2 := (83, I, R0 p)) (by subst hx1; rfl) ?_
  obtain ⟨J2, hJ2⟩ : ∃ x : IH, x = (up2 I 55 0 0) := ⟨_, rfl⟩
  replace hg := bnd_use hJ2 hg
  refine TT_go 3 (pc' := 10) (lv' := [(1, .int x1), (0, .ref 55)]) (st' := []) (h2 := (83, J2, R0 p)) (by subst hJ2; rfl) ?_
  refine TT_go 1 (pc' := 11) (lv' := [(1, .int x1), (0, .ref 55)]) (st' := [.int x1]) (h2 := (83, J2, R0 p)) (by rfl) ?_
  have hg := Option.some.inj hg
  subst hg
  exact TT_ret rfl rfl
def g_X9_byteAt (n : Nat) (a0 : Int32) (I : IH) : Option (Int32 × IH) :=
  if (I 55 0) ≤ a0 then
    some (0, I)
  else
    if inB a0 400 = true then
      bnd (I 56 (Int32.toNatClampNeg a0)) fun x3 =>
      some (x3, I)
    else none
set_option maxRecDepth 20000 in
theorem t_X9_byteAt {p : Nat} {n : Nat} {a0 : Int32} {I : IH} {w : Int32 × IH} (hg : g_X9_byteAt n a0 I = some w) : TT none mt_X9_byteAt 0 (lv_args 0 [.ref 55, .int a0]) [] (83, I, R0 p) (some (.int w.1)) (83, w.2, R0 p) := by
  unfold g_X9_byteAt at hg
  refine TT_go 3 (pc' := 5) (lv' := [(0, .ref 55), (1, .int a0)]) (st' := [.int (I 55 0), .int a0]) (h2 := (83, I, R0 p)) (by rfl) ?_
  by_cases hc1 : (I 55 0) ≤ a0
  · rw [if_pos hc1] at hg
    refine TT_ige_t (t := 17) rfl rfl hc1 ?_
    refine TT_go 1 (pc' := 18) (lv' := [(0, .ref 55), (1, .int a0)]) (st' := [.int 0]) (h2 := (83, I, R0 p)) (by rfl) ?_
    have hg := Option.some.inj hg
    subst hg
    exact TT_ret rfl rfl
  · rw [if_neg hc1] at hg
    refine TT_ige_f (t := 17) rfl rfl hc1 ?_
    refine TT_go 3 (pc' := 13) (lv' := [(0, .ref 55), (1, .int a0)]) (st' := [.int a0, .ref 56]) (h2 := (83, I, R0 p)) (by rfl) ?_
    by_cases hb2 : inB a0 400 = true
    rotate_left
    · rw [if_neg hb2] at hg; cases hg
    rw [if_pos hb2] at hg
    refine TT_iald (n := 400) rfl (by rfl) hb2 ?_
    obtain ⟨x3, hx3⟩ : ∃ x : Int32, x = (I 56 (Int32.toNatClampNeg a0)) := ⟨_, rfl⟩
    replace hg := bnd_use hx3 hg
    refine TT_go 0 (pc' := 14) (lv' := [(0, .ref 55), (1, .int a0)]) (st' := [.int x3]) (h2 := (83, I, R0 p)) (by subst hx3; rfl) ?_
    refine TT_go 1 (pc' := 18) (lv' := [(0, .ref 55), (1, .int a0)]) (st' := [.int x3]) (h2 := (83, I, R0 p)) (by rfl) ?_
    have hg := Option.some.inj hg
    subst hg
    exact TT_ret rfl rfl
