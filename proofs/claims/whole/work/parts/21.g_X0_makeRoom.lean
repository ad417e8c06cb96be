/-! Written by wip/whole/gen20.py. -/
def g_X0_makeRoom_12 : Nat → Int32 → IH → Option (IH)
  | 0, _, _ => none
  | n + 1, v1, I =>
    if 8 ≤ v1 then
      bnd (up2 I 35 0 7) fun J3 =>
      some J3
    else
      if inB v1 8 = true then
        bnd (I 36 (Int32.toNatClampNeg v1)) fun x5 =>
        if inB (v1 - 1) 8 = true then
          bnd (up2 I 36 (Int32.toNatClampNeg (v1 - 1)) x5) fun J7 =>
          if inB v1 8 = true then
            bnd (J7 37 (Int32.toNatClampNeg v1)) fun x9 =>
            if inB (v1 - 1) 8 = true then
              bnd (up2 J7 37 (Int32.toNatClampNeg (v1 - 1)) x9) fun J11 =>
              if inB v1 8 = true then
                bnd (J11 38 (Int32.toNatClampNeg v1)) fun x13 =>
                if inB (v1 - 1) 8 = true then
                  bnd (up2 J11 38 (Int32.toNatClampNeg (v1 - 1)) x13) fun J15 =>
                  if inB v1 8 = true then
                    bnd (J15 39 (Int32.toNatClampNeg v1)) fun x17 =>
                    if inB (v1 - 1) 8 = true then
                      bnd (up2 J15 39 (Int32.toNatClampNeg (v1 - 1)) x17) fun J19 =>
                      bnd (v1 + 1) fun x20 =>
                      g_X0_makeRoom_12 n x20 J19
                    else none
                  else none
                else none
              else none
            else none
          else none
        else none
      else none
set_option maxRecDepth 20000 in
theorem t_X0_makeRoom_12 {p : Nat} : ∀ (n : Nat) (v1 : Int32) (I : IH) (w : IH), g_X0_makeRoom_12 n v1 I = some w → TT none mt_X0_makeRoom 12 [(0, .ref 35), (1, .int v1)] [] (83, I, R0 p) none (83, w, R0 p) := by
  intro n
  induction n with
  | zero => intro v1 I w hg; cases hg
  | succ n ih =>
    intro v1 I w hg
    unfold g_X0_makeRoom_12 at hg
    refine TT_go 2 (pc' := 15) (lv' := [(0, .ref 35), (1, .int v1)]) (st' := [.int 8, .int v1]) (h2 := (83, I, R0 p)) (by rfl) ?_
    by_cases hc2 : 8 ≤ v1
    · rw [if_pos hc2] at hg
      refine TT_ige_t (t := 80) rfl rfl hc2 ?_
      obtain ⟨J3, hJ3⟩ : ∃ x : IH, x = (up2 I 35 0 7) := ⟨_, rfl⟩
      replace hg := bnd_use hJ3 hg
      refine TT_go 3 (pc' := 86) (lv' := [(0, .ref 35), (1, .int v1)]) (st' := []) (h2 := (83, J3, R0 p)) (by subst hJ3; rfl) ?_
      have hg := Option.some.inj hg
      subst hg
      exact TT_ret rfl rfl
    · rw [if_neg hc2] at hg
      refine TT_ige_f (t := 80) rfl rfl hc2 ?_
      refine TT_go 8 (pc' := 30) (lv' := [(0, .ref 35), (1, .int v1)]) (st' := [.int v1, .ref 36, .int (v1 - 1), .ref 36]) (h2 := (83, I, R0 p)) (by rfl) ?_
      by_cases hb4 : inB v1 8 = true
      rotate_left
      · rw [if_neg hb4] at hg; cases hg
      rw [if_pos hb4] at hg
      refine TT_iald (n := 8) rfl (by rfl) hb4 ?_
      obtain ⟨x5, hx5⟩ : ∃ x : Int32, x = (I 36 (Int32.toNatClampNeg v1)) := ⟨_, rfl⟩
      replace hg := bnd_use hx5 hg
      refine TT_go 0 (pc' := 31) (lv' := [(0, .ref 35), (1, .int v1)]) (st' := [.int x5, .int (v1 - 1), .ref 36]) (h2 := (83, I, R0 p)) (by subst hx5; rfl) ?_
      by_cases hb6 : inB (v1 - 1) 8 = true
      rotate_left
      · rw [if_neg hb6] at hg; cases hg
      rw [if_pos hb6] at hg
      refine TT_iast (n := 8) rfl (by rfl) hb6 ?_
      obtain ⟨J7, hJ7⟩ : ∃ x : IH, x = (up2 I 36 (Int32.toNatClampNeg (v1 - 1)) x5) := ⟨_, rfl⟩
      replace hg := bnd_use hJ7 hg
      refine TT_go 0 (pc' := 32) (lv' := [(0, .ref 35), (1, .int v1)]) (st' := []) (h2 := (83, J7, R0 p)) (by subst hJ7; rfl) ?_
      refine TT_go 8 (pc' := 44) (lv' := [(0, .ref 35), (1, .int v1)]) (st' := [.int v1, .ref 37, .int (v1 - 1), .ref 37]) (h2 := (83, J7, R0 p)) (by rfl) ?_
      by_cases hb8 : inB v1 8 = true
      rotate_left
      · rw [if_neg hb8] at hg; cases hg
      rw [if_pos hb8] at hg
      refine TT_iald (n := 8) rfl (by rfl) hb8 ?_
      obtain ⟨x9, hx9⟩ : ∃ x : Int32, x = (J7 37 (Int32.toNatClampNeg v1)) := ⟨_, rfl⟩
      replace hg := bnd_use hx9 hg
      refine TT_go 0 (pc' := 45) (lv' := [(0, .ref 35), (1, .int v1)]) (st' := [.int x9, .int (v1 - 1), .ref 37]) (h2 := (83, J7, R0 p)) (by subst hx9; rfl) ?_
      by_cases hb10 : inB (v1 - 1) 8 = true
      rotate_left
      · rw [if_neg hb10] at hg; cases hg
      rw [if_pos hb10] at hg
      refine TT_iast (n := 8) rfl (by rfl) hb10 ?_
      obtain ⟨J11, hJ11⟩ : ∃ x : IH, x = (up2 J7 37 (Int32.toNatClampNeg (v1 - 1)) x9) := ⟨_, rfl⟩
      replace hg := bnd_use hJ11 hg
      refine TT_go 0 (pc' := 46) (lv' := [(0, .ref 35), (1, .int v1)]) (st' := []) (h2 := (83, J11, R0 p)) (by subst hJ11; rfl) ?_
      refine TT_go 8 (pc' := 58) (lv' := [(0, .ref 35), (1, .int v1)]) (st' := [.int v1, .ref 38, .int (v1 - 1), .ref 38]) (h2 := (83, J11, R0 p)) (by rfl) ?_
      by_cases hb12 : inB v1 8 = true
      rotate_left
      · rw [if_neg hb12] at hg; cases hg
      rw [if_pos hb12] at hg
      refine TT_iald (n := 8) rfl (by rfl) hb12 ?_
      obtain ⟨x13, hx13⟩ : ∃ x : Int32, x = (J11 38 (Int32.toNatClampNeg v1)) := ⟨_, rfl⟩
      replace hg := bnd_use hx13 hg
      refine TT_go 0 (pc' := 59) (lv' := [(0, .ref 35), (1, .int v1)]) (st' := [.int x13, .int (v1 - 1), .ref 38]) (h2 := (83, J11, R0 p)) (by subst hx13; rfl) ?_
      by_cases hb14 : inB (v1 - 1) 8 = true
      rotate_left
      · rw [if_neg hb14] at hg; cases hg
      rw [if_pos hb14] at hg
      refine TT_iast (n := 8) rfl (by rfl) hb14 ?_
      obtain ⟨J15, hJ15⟩ : ∃ x : IH, x = (up2 J11 38 (Int32.toNatClampNeg (v1 - 1)) x13) := ⟨_, rfl⟩
      replace hg := bnd_use hJ15 hg
      refine TT_go 0 (pc' := 60) (lv' := [(0, .ref 35), (1, .int v1)]) (st' := []) (h2 := (83, J15, R0 p)) (by subst hJ15; rfl) ?_
      refine TT_go 8 (pc' := 72) (lv' := [(0, .ref 35), (1, .int v1)]) (st' := [.int v1, .ref 39, .int (v1 - 1), .ref 39]) (h2 := (83, J15, R0 p)) (by rfl) ?_
      by_cases hb16 : inB v1 8 = true
      rotate_left
      · rw [if_neg hb16] at hg; cases hg
      rw [if_pos hb16] at hg
      refine TT_iald (n := 8) rfl (by rfl) hb16 ?_
      obtain ⟨x17, hx17⟩ : ∃ x : Int32, x = (J15 39 (Int32.toNatClampNeg v1)) := ⟨_, rfl⟩
      replace hg := bnd_use hx17 hg
      refine TT_go 0 (pc' := 73) (lv' := [(0, .ref 35), (1, .int v1)]) (st' := [.int x17, .int (v1 - 1), .ref 39]) (h2 := (83, J15, R0 p)) (by subst hx17; rfl) ?_
      by_cases hb18 : inB (v1 - 1) 8 = true
      rotate_left
      · rw [if_neg hb18] at hg; cases hg
      rw [if_pos hb18] at hg
      refine TT_iast (n := 8) rfl (by rfl) hb18 ?_
      obtain ⟨J19, hJ19⟩ : ∃ x : IH, x = (up2 J15 39 (Int32.toNatClampNeg (v1 - 1)) x17) := ⟨_, rfl⟩
      replace hg := bnd_use hJ19 hg
      refine TT_go 0 (pc' := 74) (lv' := [(0, .ref 35), (1, .int v1)]) (st' := []) (h2 := (83, J19, R0 p)) (by subst hJ19; rfl) ?_
      obtain ⟨x20, hx20⟩ : ∃ x : Int32, x = (v1 + 1) := ⟨_, rfl⟩
      replace hg := bnd_use hx20 hg
      refine TT_go 1 (pc' := 77) (lv' := [(1, .int x20), (0, .ref 35)]) (st' := []) (h2 := (83, J19, R0 p)) (by subst hx20; rfl) ?_
      refine TT_go 1 (pc' := 12) (lv' := [(1, .int x20), (0, .ref 35)]) (st' := []) (h2 := (83, J19, R0 p)) (by rfl) ?_
      refine TT_sub (lv2 := [(0, .ref 35), (1, .int x20)]) rfl rfl ⟨rfl, rfl, trivial⟩ ?_
      exact ih x20 _ _ hg
def g_X0_makeRoom (n : Nat) (I : IH) : Option (IH) :=
  if 8 ≤ (I 35 0) then
    g_X0_makeRoom_12 n 1 I
  else
    some I
set_option maxRecDepth 20000 in
theorem t_X0_makeRoom {p : Nat} {n : Nat} {I : IH} {w : IH} (hg : g_X0_makeRoom n I = some w) : TT none mt_X0_makeRoom 0 (lv_args 0 [.ref 35]) [] (83, I, R0 p) none (83, w, R0 p) := by
  unfold g_X0_makeRoom at hg
  refine TT_go 3 (pc' := 6) (lv' := [(0, .ref 35)]) (st' := [.int 8, .int (I 35 0)]) (h2 := (83, I, R0 p)) (by rfl) ?_
  by_cases hc1 : 8 ≤ (I 35 0)
  · rw [if_pos hc1] at hg
    refine TT_ige_t (t := 10) rfl rfl hc1 ?_
    refine TT_go 2 (pc' := 12) (lv' := [(1, .int 1), (0, .ref 35)]) (st' := []) (h2 := (83, I, R0 p)) (by rfl) ?_
    refine TT_sub (lv2 := [(0, .ref 35), (1, .int 1)]) rfl rfl ⟨rfl, rfl, trivial⟩ ?_
    exact t_X0_makeRoom_12 n 1 _ _ hg
  · rw [if_neg hc1] at hg
    refine TT_ige_f (t := 10) rfl rfl hc1 ?_
    refine TT_go 0 (pc' := 9) (lv' := [(0, .ref 35)]) (st' := []) (h2 := (83, I, R0 p)) (by rfl) ?_
    have hg := Option.some.inj hg
    subst hg
    exact TT_ret rfl rfl
def g_X0_noteTurn (n : Nat) (a0 : Int32) (I : IH) : Option (IH) :=
  match g_X0_makeRoom n I with
  | none => none
  | some J3 =>
    if inB (J3 35 0) 8 = true then
      bnd (up2 J3 36 (Int32.toNatClampNeg (J3 35 0)) a0) fun J5 =>
      bnd (up2 J5 35 0 ((J5 35 0) + 1)) fun J6 =>
      some J6
    else none
set_option maxRecDepth 20000 in
theorem t_X0_noteTurn {p : Nat} {n : Nat} {a0 : Int32} {I : IH} {w : IH} (hg : g_X0_noteTurn n a0 I = some w) : TT none mt_X0_noteTurn 0 (lv_args 0 [.ref 35, .int a0]) [] (83, I, R0 p) none (83, w, R0 p) := by
  unfold g_X0_noteTurn at hg
  refine TT_go 1 (pc' := 1) (lv' := [(0, .ref 35), (1, .int a0)]) (st' := [.ref 35]) (h2 := (83, I, R0 p)) (by rfl) ?_
  cases hq1 : g_X0_makeRoom n I with
  | none => rw [hq1] at hg; cases hg
  | some w2 =>
    obtain ⟨J3, hJ3⟩ : ∃ J, J = w2 := ⟨_, rfl⟩
    rw [← hJ3] at hq1
    rw [hq1] at hg
    dsimp only at hg
    refine TT_call (me' := mt_X0_makeRoom) (as := [.ref 35]) (rest := []) (r1 := none) (h1 := (83, J3, R0 p)) rfl rfl (by rfl) (t_X0_makeRoom hq1) ?_
    refine TT_go 5 (pc' := 13) (lv' := [(0, .ref 35), (1, .int a0)]) (st' := [.int a0, .int (J3 35 0), .ref 36]) (h2 := (83, J3, R0 p)) (by rfl) ?_
    by_cases hb4 : inB (J3 35 0) 8 = true
    rotate_left
    · rw [if_neg hb4] at hg; cases hg
    rw [if_pos hb4] at hg
    refine TT_iast (n := 8) rfl (by rfl) hb4 ?_
    obtain ⟨J5, hJ5⟩ : ∃ x : IH, x = (up2 J3 36 (Int32.toNatClampNeg (J3 35 0)) a0) := ⟨_, rfl⟩
    replace hg := bnd_use hJ5 hg
    refine TT_go 0 (pc' := 14) (lv' := [(0, .ref 35), (1, .int a0)]) (st' := []) (h2 := (83, J5, R0 p)) (by subst hJ5; rfl) ?_
    obtain ⟨J6, hJ6⟩ : ∃ x : IH, x = (up2 J5 35 0 ((J5 35 0) + 1)) := ⟨_, rfl⟩
    replace hg := bnd_use hJ6 hg
    refine TT_go 6 (pc' := 24) (lv' := [(0, .ref 35), (1, .int a0)]) (st' := []) (h2 := (83, J6, R0 p)) (by subst hJ6; rfl) ?_
    have hg := Option.some.inj hg
    subst hg
    exact TT_ret rfl rfl
def g_X0_notePouring (n : Nat) (a0 : Int32) (a1 : Int32) (a2 : Int32) (I : IH) : Option (IH) :=
  match g_X0_makeRoom n I with
  | none => none
  | some J3 =>
    if inB (J3 35 0) 8 = true then
      bnd (up2 J3 36 (Int32.toNatClampNeg (J3 35 0)) 0) fun J5 =>
      if inB (J5 35 0) 8 = true then
        bnd (up2 J5 37 (Int32.toNatClampNeg (J5 35 0)) a0) fun J7 =>
        if inB (J7 35 0) 8 = true then
          bnd (up2 J7 38 (Int32.toNatClampNeg (J7 35 0)) a1) fun J9 =>
          if inB (J9 35 0) 8 = true then
            bnd (up2 J9 39 (Int32.toNatClampNeg (J9 35 0)) a2) fun J11 =>
            bnd (up2 J11 35 0 ((J11 35 0) + 1)) fun J12 =>
            some J12
          else none
        else none
      else none
    else none
set_option maxRecDepth 20000 in
theorem t_X0_notePouring {p : Nat} {n : Nat} {a0 : Int32} {a1 : Int32} {a2 : Int32} {I : IH} {w : IH} (hg : g_X0_notePouring n a0 a1 a2 I = some w) : TT none mt_X0_notePouring 0 (lv_args 0 [.ref 35, .int a0, .int a1, .int a2]) [] (83, I, R0 p) none (83, w, R0 p) := by
  unfold g_X0_notePouring at hg
  refine TT_go 1 (pc' := 1) (lv' := [(0, .ref 35), (1, .int a0), (2, .int a1), (3, .int a2)]) (st' := [.ref 35]) (h2 := (83, I, R0 p)) (by rfl) ?_
  cases hq1 : g_X0_makeRoom n I with
  | none => rw [hq1] at hg; cases hg
  | some w2 =>
    obtain ⟨J3, hJ3⟩ : ∃ J, J = w2 := ⟨_, rfl⟩
    rw [← hJ3] at hq1
    rw [hq1] at hg
    dsimp only at hg
    refine TT_call (me' := mt_X0_makeRoom) (as := [.ref 35]) (rest := []) (r1 := none) (h1 := (83, J3, R0 p)) rfl rfl (by rfl) (t_X0_makeRoom hq1) ?_
    refine TT_go 5 (pc' := 13) (lv' := [(0, .ref 35), (1, .int a0), (2, .int a1), (3, .int a2)]) (st' := [.int 0, .int (J3 35 0), .ref 36]) (h2 := (83, J3, R0 p)) (by rfl) ?_
    by_cases hb4 : inB (J3 35 0) 8 = true
    rotate_left
    · rw [if_neg hb4] at hg; cases hg
    rw [if_pos hb4] at hg
    refine TT_iast (n := 8) rfl (by rfl) hb4 ?_
    obtain ⟨J5, hJ5⟩ : ∃ x : IH, x = (up2 J3 36 (Int32.toNatClampNeg (J3 35 0)) 0) := ⟨_, rfl⟩
    replace hg := bnd_use hJ5 hg
    refine TT_go 0 (pc' := 14) (lv' := [(0, .ref 35), (1, .int a0), (2, .int a1), (3, .int a2)]) (st' := []) (h2 := (83, J5, R0 p)) (by subst hJ5; rfl) ?_
    refine TT_go 5 (pc' := 23) (lv' := [(0, .ref 35), (1, .int a0), (2, .int a1), (3, .int a2)]) (st' := [.int a0, .int (J5 35 0), .ref 37]) (h2 := (83, J5, R0 p)) (by rfl) ?_
    by_cases hb6 : inB (J5 35 0) 8 = true
    rotate_left
    · rw [if_neg hb6] at hg; cases hg
    rw [if_pos hb6] at hg
    refine TT_iast (n := 8) rfl (by rfl) hb6 ?_
    obtain ⟨J7, hJ7⟩ : ∃ x : IH, x = (up2 J5 37 (Int32.toNatClampNeg (J5 35 0)) a0) := ⟨_, rfl⟩
    replace hg := bnd_use hJ7 hg
    refine TT_go 0 (pc' := 24) (lv' := [(0, .ref 35), (1, .int a0), (2, .int a1), (3, .int a2)]) (st' := []) (h2 := (83, J7, R0 p)) (by subst hJ7; rfl) ?_
    refine TT_go 5 (pc' := 33) (lv' := [(0, .ref 35), (1, .int a0), (2, .int a1), (3, .int a2)]) (st' := [.int a1, .int (J7 35 0), .ref 38]) (h2 := (83, J7, R0 p)) (by rfl) ?_
    by_cases hb8 : inB (J7 35 0) 8 = true
    rotate_left
    · rw [if_neg hb8] at hg; cases hg
    rw [if_pos hb8] at hg
    refine TT_iast (n := 8) rfl (by rfl) hb8 ?_
    obtain ⟨J9, hJ9⟩ : ∃ x : IH, x = (up2 J7 38 (Int32.toNatClampNeg (J7 35 0)) a1) := ⟨_, rfl⟩
    replace hg := bnd_use hJ9 hg
    refine TT_go 0 (pc' := 34) (lv' := [(0, .ref 35), (1, .int a0), (2, .int a1), (3, .int a2)]) (st' := []) (h2 := (83, J9, R0 p)) (by subst hJ9; rfl) ?_
    refine TT_go 5 (pc' := 43) (lv' := [(0, .ref 35), (1, .int a0), (2, .int a1), (3, .int a2)]) (st' := [.int a2, .int (J9 35 0), .ref 39]) (h2 := (83, J9, R0 p)) (by rfl) ?_
    by_cases hb10 : inB (J9 35 0) 8 = true
    rotate_left
    · rw [if_neg hb10] at hg; cases hg
    rw [if_pos hb10] at hg
    refine TT_iast (n := 8) rfl (by rfl) hb10 ?_
    obtain ⟨J11, hJ11⟩ : ∃ x : IH, x = (up2 J9 39 (Int32.toNatClampNeg (J9 35 0)) a2) := ⟨_, rfl⟩
    replace hg := bnd_use hJ11 hg
    refine TT_go 0 (pc' := 44) (lv' := [(0, .ref 35), (1, .int a0), (2, .int a1), (3, .int a2)]) (st' := []) (h2 := (83, J11, R0 p)) (by subst hJ11; rfl) ?_
    obtain ⟨J12, hJ12⟩ : ∃ x : IH, x = (up2 J11 35 0 ((J11 35 0) + 1)) := ⟨_, rfl⟩
    replace hg := bnd_use hJ12 hg
    refine TT_go 6 (pc' := 54) (lv' := [(0, .ref 35), (1, .int a0), (2, .int a1), (3, .int a2)]) (st' := []) (h2 := (83, J12, R0 p)) (by subst hJ12; rfl) ?_
    have hg := Option.some.inj hg
    subst hg
    exact TT_ret rfl rfl
def g_X5_flip (n : Nat) (s : Nat) (a0 : Int32) (I : IH) : Option (IH) :=
  bnd (up2 I s 1 ((I s 1) ^^^ a0)) fun J1 =>
  some J1
set_option maxRecDepth 20000 in
theorem t_X5_flip {s : Nat} (hs : s = 31 ∨ s = 33) {p : Nat} {n : Nat} {a0 : Int32} {I : IH} {w : IH} (hg : g_X5_flip n s a0 I = some w) : TT none mt_X5_flip 0 (lv_args 0 [.ref s, .int a0]) [] (83, I, R0 p) none (83, w, R0 p) := by
  unfold g_X5_flip at hg
  obtain ⟨J1, hJ1⟩ : ∃ x : IH, x = (up2 I s 1 ((I s 1) ^^^ a0)) := ⟨_, rfl⟩
  replace hg := bnd_use hJ1 hg
  refine TT_go 6 (pc' := 10) (lv' := [(0, .ref s), (1, .int a0)]) (st' := []) (h2 := (83, J1, R0 p)) (by subst hJ1; rcases hs with rfl | rfl <;> rfl) ?_
  have hg := Option.some.inj hg
  subst hg
  exact TT_ret rfl rfl
def g_X5_move (n : Nat) (s : Nat) (a0 : Int32) (a1 : Int32) (a2 : Int32) (I : IH) : Option (IH) :=
  if inB a0 16 = true then
    bnd (I ((s + 1)) (Int32.toNatClampNeg a0)) fun x2 =>
    if inB a0 16 = true then
      bnd (up2 I ((s + 1)) (Int32.toNatClampNeg a0) (x2 - a2)) fun J4 =>
      if inB a1 16 = true then
        bnd (J4 ((s + 1)) (Int32.toNatClampNeg a1)) fun x6 =>
        if inB a1 16 = true then
          bnd (up2 J4 ((s + 1)) (Int32.toNatClampNeg a1) (x6 + a2)) fun J8 =>
          some J8
        else none
      else none
    else none
  else none
set_option maxRecDepth 20000 in
theorem t_X5_move {s : Nat} (hs : s = 31 ∨ s = 33) {p : Nat} {n : Nat} {a0 : Int32} {a1 : Int32} {a2 : Int32} {I : IH} {w : IH} (hg : g_X5_move n s a0 a1 a2 I = some w) : TT none mt_X5_move 0 (lv_args 0 [.ref s, .int a0, .int a1, .int a2]) [] (83, I, R0 p) none (83, w, R0 p) := by
  unfold g_X5_move at hg
  refine TT_go 4 (pc' := 6) (lv' := [(0, .ref s), (1, .int a0), (2, .int a1), (3, .int a2)]) (st' := [.int a0, .ref (s + 1), .int a0, .ref (s + 1)]) (h2 := (83, I, R0 p)) (by rcases hs with rfl | rfl <;> rfl) ?_
  by_cases hb1 : inB a0 16 = true
  rotate_left
  · rw [if_neg hb1] at hg; cases hg
  rw [if_pos hb1] at hg
  refine TT_iald (n := 16) rfl (by rcases hs with rfl | rfl <;> rfl) hb1 ?_
  obtain ⟨x2, hx2⟩ : ∃ x : Int32, x = (I ((s + 1)) (Int32.toNatClampNeg a0)) := ⟨_, rfl⟩
  replace hg := bnd_use hx2 hg
  refine TT_go 0 (pc' := 7) (lv' := [(0, .ref s), (1, .int a0), (2, .int a1), (3, .int a2)]) (st' := [.int x2, .int a0, .ref (s + 1)]) (h2 := (83, I, R0 p)) (by subst hx2; rcases hs with rfl | rfl <;> rfl) ?_
  refine TT_go 2 (pc' := 9) (lv' := [(0, .ref s), (1, .int a0), (2, .int a1), (3, .int a2)]) (st' := [.int (x2 - a2), .int a0, .ref (s + 1)]) (h2 := (83, I, R0 p)) (by rcases hs with rfl | rfl <;> rfl) ?_
  by_cases hb3 : inB a0 16 = true
  rotate_left
  · rw [if_neg hb3] at hg; cases hg
  rw [if_pos hb3] at hg
  refine TT_iast (n := 16) rfl (by rcases hs with rfl | rfl <;> rfl) hb3 ?_
  obtain ⟨J4, hJ4⟩ : ∃ x : IH, x = (up2 I ((s + 1)) (Int32.toNatClampNeg a0) (x2 - a2)) := ⟨_, rfl⟩
  replace hg := bnd_use hJ4 hg
  refine TT_go 0 (pc' := 10) (lv' := [(0, .ref s), (1, .int a0), (2, .int a1), (3, .int a2)]) (st' := []) (h2 := (83, J4, R0 p)) (by subst hJ4; rcases hs with rfl | rfl <;> rfl) ?_
  refine TT_go 4 (pc' := 16) (lv' := [(0, .ref s), (1, .int a0), (2, .int a1), (3, .int a2)]) (st' := [.int a1, .ref (s + 1), .int a1, .ref (s + 1)]) (h2 := (83, J4, R0 p)) (by rcases hs with rfl | rfl <;> rfl) ?_
  by_cases hb5 : inB a1 16 = true
  rotate_left
  · rw [if_neg hb5] at hg; cases hg
  rw [if_pos hb5] at hg
  refine TT_iald (n := 16) rfl (by rcases hs with rfl | rfl <;> rfl) hb5 ?_
  obtain ⟨x6, hx6⟩ : ∃ x : Int32, x = (J4 ((s + 1)) (Int32.toNatClampNeg a1)) := ⟨_, rfl⟩
  replace hg := bnd_use hx6 hg
  refine TT_go 0 (pc' := 17) (lv' := [(0, .ref s), (1, .int a0), (2, .int a1), (3, .int a2)]) (st' := [.int x6, .int a1, .ref (s + 1)]) (h2 := (83, J4, R0 p)) (by subst hx6; rcases hs with rfl | rfl <;> rfl) ?_
  refine TT_go 2 (pc' := 19) (lv' := [(0, .ref s), (1, .int a0), (2, .int a1), (3, .int a2)]) (st' := [.int (x6 + a2), .int a1, .ref (s + 1)]) (h2 := (83, J4, R0 p)) (by rcases hs with rfl | rfl <;> rfl) ?_
  by_cases hb7 : inB a1 16 = true
  rotate_left
  · rw [if_neg hb7] at hg; cases hg
  rw [if_pos hb7] at hg
  refine TT_iast (n := 16) rfl (by rcases hs with rfl | rfl <;> rfl) hb7 ?_
  obtain ⟨J8, hJ8⟩ : ∃ x : IH, x = (up2 J4 ((s + 1)) (Int32.toNatClampNeg a1) (x6 + a2)) := ⟨_, rfl⟩
  replace hg := bnd_use hJ8 hg
  refine TT_go 0 (pc' := 20) (lv' := [(0, .ref s), (1, .int a0), (2, .int a1), (3, .int a2)]) (st' := []) (h2 := (83, J8, R0 p)) (by subst hJ8; rcases hs with rfl | rfl <;> rfl) ?_
  have hg := Option.some.inj hg
  subst hg
  exact TT_ret rfl rfl
def g_X0_takeBack (n : Nat) (I : IH) : Option (IH) :=
  if 0 < (I 35 0) then
    bnd (up2 I 35 0 ((I 35 0) - 1)) fun J2 =>
    if inB (J2 35 0) 8 = true then
      bnd (J2 36 (Int32.toNatClampNeg (J2 35 0))) fun x4 =>
      if x4 = 0 then
        if inB (J2 35 0) 8 = true then
          bnd (J2 38 (Int32.toNatClampNeg (J2 35 0))) fun x7 =>
          if inB (J2 35 0) 8 = true then
            bnd (J2 37 (Int32.toNatClampNeg (J2 35 0))) fun x9 =>
            if inB (J2 35 0) 8 = true then
              bnd (J2 39 (Int32.toNatClampNeg (J2 35 0))) fun x11 =>
              match g_X5_move n 31 x7 x9 x11 J2 with
              | none => none
              | some J14 =>
                some J14
            else none
          else none
        else none
      else
        if inB (J2 35 0) 8 = true then
          bnd (J2 36 (Int32.toNatClampNeg (J2 35 0))) fun x16 =>
          match g_X5_flip n 31 x16 J2 with
          | none => none
          | some J19 =>
            some J19
        else none
    else none
  else
    some I
set_option maxRecDepth 20000 in
theorem t_X0_takeBack {p : Nat} {n : Nat} {I : IH} {w : IH} (hg : g_X0_takeBack n I = some w) : TT none mt_X0_takeBack 0 (lv_args 0 [.ref 35, .ref 31]) [] (83, I, R0 p) none (83, w, R0 p) := by
  unfold g_X0_takeBack at hg
  refine TT_go 2 (pc' := 4) (lv' := [(0, .ref 35), (1, .ref 31)]) (st' := [.int (I 35 0)]) (h2 := (83, I, R0 p)) (by rfl) ?_
  by_cases hc1 : 0 < (I 35 0)
  · rw [if_pos hc1] at hg
    refine TT_zgt_t (t := 8) rfl rfl hc1 ?_
    obtain ⟨J2, hJ2⟩ : ∃ x : IH, x = (up2 I 35 0 ((I 35 0) - 1)) := ⟨_, rfl⟩
    replace hg := bnd_use hJ2 hg
    refine TT_go 6 (pc' := 18) (lv' := [(0, .ref 35), (1, .ref 31)]) (st' := []) (h2 := (83, J2, R0 p)) (by subst hJ2; rfl) ?_
    refine TT_go 4 (pc' := 26) (lv' := [(0, .ref 35), (1, .ref 31)]) (st' := [.int (J2 35 0), .ref 36]) (h2 := (83, J2, R0 p)) (by rfl) ?_
    by_cases hb3 : inB (J2 35 0) 8 = true
    rotate_left
    · rw [if_neg hb3] at hg; cases hg
    rw [if_pos hb3] at hg
    refine TT_iald (n := 8) rfl (by rfl) hb3 ?_
    obtain ⟨x4, hx4⟩ : ∃ x : Int32, x = (J2 36 (Int32.toNatClampNeg (J2 35 0))) := ⟨_, rfl⟩
    replace hg := bnd_use hx4 hg
    refine TT_go 0 (pc' := 27) (lv' := [(0, .ref 35), (1, .ref 31)]) (st' := [.int x4]) (h2 := (83, J2, R0 p)) (by subst hx4; rfl) ?_
    by_cases hc5 : x4 = 0
    · rw [if_pos hc5] at hg
      refine TT_zeq_t (t := 46) rfl rfl hc5 ?_
      refine TT_go 5 (pc' := 55) (lv' := [(0, .ref 35), (1, .ref 31)]) (st' := [.int (J2 35 0), .ref 38, .ref 31]) (h2 := (83, J2, R0 p)) (by rfl) ?_
      by_cases hb6 : inB (J2 35 0) 8 = true
      rotate_left
      · rw [if_neg hb6] at hg; cases hg
      rw [if_pos hb6] at hg
      refine TT_iald (n := 8) rfl (by rfl) hb6 ?_
      obtain ⟨x7, hx7⟩ : ∃ x : Int32, x = (J2 38 (Int32.toNatClampNeg (J2 35 0))) := ⟨_, rfl⟩
      replace hg := bnd_use hx7 hg
      refine TT_go 0 (pc' := 56) (lv' := [(0, .ref 35), (1, .ref 31)]) (st' := [.int x7, .ref 31]) (h2 := (83, J2, R0 p)) (by subst hx7; rfl) ?_
      refine TT_go 4 (pc' := 64) (lv' := [(0, .ref 35), (1, .ref 31)]) (st' := [.int (J2 35 0), .ref 37, .int x7, .ref 31]) (h2 := (83, J2, R0 p)) (by rfl) ?_
      by_cases hb8 : inB (J2 35 0) 8 = true
      rotate_left
      · rw [if_neg hb8] at hg; cases hg
      rw [if_pos hb8] at hg
      refine TT_iald (n := 8) rfl (by rfl) hb8 ?_
      obtain ⟨x9, hx9⟩ : ∃ x : Int32, x = (J2 37 (Int32.toNatClampNeg (J2 35 0))) := ⟨_, rfl⟩
      replace hg := bnd_use hx9 hg
      refine TT_go 0 (pc' := 65) (lv' := [(0, .ref 35), (1, .ref 31)]) (st' := [.int x9, .int x7, .ref 31]) (h2 := (83, J2, R0 p)) (by subst hx9; rfl) ?_
      refine TT_go 4 (pc' := 73) (lv' := [(0, .ref 35), (1, .ref 31)]) (st' := [.int (J2 35 0), .ref 39, .int x9, .int x7, .ref 31]) (h2 := (83, J2, R0 p)) (by rfl) ?_
      by_cases hb10 : inB (J2 35 0) 8 = true
      rotate_left
      · rw [if_neg hb10] at hg; cases hg
      rw [if_pos hb10] at hg
      refine TT_iald (n := 8) rfl (by rfl) hb10 ?_
      obtain ⟨x11, hx11⟩ : ∃ x : Int32, x = (J2 39 (Int32.toNatClampNeg (J2 35 0))) := ⟨_, rfl⟩
      replace hg := bnd_use hx11 hg
      refine TT_go 0 (pc' := 74) (lv' := [(0, .ref 35), (1, .ref 31)]) (st' := [.int x11, .int x9, .int x7, .ref 31]) (h2 := (83, J2, R0 p)) (by subst hx11; rfl) ?_
      cases hq12 : g_X5_move n 31 x7 x9 x11 J2 with
      | none => rw [hq12] at hg; cases hg
      | some w13 =>
        obtain ⟨J14, hJ14⟩ : ∃ J, J = w13 := ⟨_, rfl⟩
        rw [← hJ14] at hq12
        rw [hq12] at hg
        dsimp only at hg
        refine TT_call (me' := mt_X5_move) (as := [.ref 31, .int x7, .int x9, .int x11]) (rest := []) (r1 := none) (h1 := (83, J14, R0 p)) rfl rfl (by rfl) (t_X5_move (Or.inl rfl) hq12) ?_
        refine TT_go 0 (pc' := 77) (lv' := [(0, .ref 35), (1, .ref 31)]) (st' := []) (h2 := (83, J14, R0 p)) (by rfl) ?_
        have hg := Option.some.inj hg
        subst hg
        exact TT_ret rfl rfl
    · rw [if_neg hc5] at hg
      refine TT_zeq_f (t := 46) rfl rfl hc5 ?_
      refine TT_go 5 (pc' := 39) (lv' := [(0, .ref 35), (1, .ref 31)]) (st' := [.int (J2 35 0), .ref 36, .ref 31]) (h2 := (83, J2, R0 p)) (by rfl) ?_
      by_cases hb15 : inB (J2 35 0) 8 = true
      rotate_left
      · rw [if_neg hb15] at hg; cases hg
      rw [if_pos hb15] at hg
      refine TT_iald (n := 8) rfl (by rfl) hb15 ?_
      obtain ⟨x16, hx16⟩ : ∃ x : Int32, x = (J2 36 (Int32.toNatClampNeg (J2 35 0))) := ⟨_, rfl⟩
      replace hg := bnd_use hx16 hg
      refine TT_go 0 (pc' := 40) (lv' := [(0, .ref 35), (1, .ref 31)]) (st' := [.int x16, .ref 31]) (h2 := (83, J2, R0 p)) (by subst hx16; rfl) ?_
      cases hq17 : g_X5_flip n 31 x16 J2 with
      | none => rw [hq17] at hg; cases hg
      | some w18 =>
        obtain ⟨J19, hJ19⟩ : ∃ J, J = w18 := ⟨_, rfl⟩
        rw [← hJ19] at hq17
        rw [hq17] at hg
        dsimp only at hg
        refine TT_call (me' := mt_X5_flip) (as := [.ref 31, .int x16]) (rest := []) (r1 := none) (h1 := (83, J19, R0 p)) rfl rfl (by rfl) (t_X5_flip (Or.inl rfl) hq17) ?_
        refine TT_go 1 (pc' := 77) (lv' := [(0, .ref 35), (1, .ref 31)]) (st' := []) (h2 := (83, J19, R0 p)) (by rfl) ?_
        have hg := Option.some.inj hg
        subst hg
        exact TT_ret rfl rfl
  · rw [if_neg hc1] at hg
    refine TT_zgt_f (t := 8) rfl rfl hc1 ?_
    refine TT_go 0 (pc' := 7) (lv' := [(0, .ref 35), (1, .ref 31)]) (st' := []) (h2 := (83, I, R0 p)) (by rfl) ?_
    have hg := Option.some.inj hg
    subst hg
    exact TT_ret rfl rfl
def g_X5_letClerksTurn_81 (n : Nat) (s : Nat) (q : Nat) (k3 : Int32 → Int32 → Int32 → IH → Option (IH)) (v2 : Int32) (v3 : Int32) (v4 : Int32) (I : IH) : Option (IH) :=
  bnd (v4 + 1) fun x9 =>
  k3 v2 v3 x9 I
set_option maxRecDepth 20000 in
theorem t_X5_letClerksTurn_81 {s : Nat} (hs : s = 31 ∨ s = 33) {q : Nat} (hq : q = 5 ∨ q = 18) {p : Nat} {n : Nat} {k3 : Int32 → Int32 → Int32 → IH → Option (IH)} (hk3 : ∀ (v2 : Int32) (v3 : Int32) (v4 : Int32) (I : IH) (w : IH), k3 v2 v3 v4 I = some w → TT none mt_X5_letClerksTurn 3 [(0, .ref s), (1, .ref q), (2, .int v2), (3, .int v3), (4, .int v4)] [] (83, I, R0 p) none (83, w, R0 p)) {v2 : Int32} {v3 : Int32} {v4 : Int32} {I : IH} {w : IH} (hg : g_X5_letClerksTurn_81 n s q k3 v2 v3 v4 I = some w) : TT none mt_X5_letClerksTurn 81 [(0, .ref s), (1, .ref q), (2, .int v2), (3, .int v3), (4, .int v4)] [] (83, I, R0 p) none (83, w, R0 p) := by
  unfold g_X5_letClerksTurn_81 at hg
  obtain ⟨x9, hx9⟩ : ∃ x : Int32, x = (v4 + 1) := ⟨_, rfl⟩
  replace hg := bnd_use hx9 hg
  refine TT_go 1 (pc' := 84) (lv' := [(4, .int x9), (0, .ref s), (1, .ref q), (2, .int v2), (3, .int v3)]) (st' := []) (h2 := (83, I, R0 p)) (by subst hx9; rcases hs with rfl | rfl <;> rcases hq with rfl | rfl <;> rfl) ?_
  refine TT_go 1 (pc' := 3) (lv' := [(4, .int x9), (0, .ref s), (1, .ref q), (2, .int v2), (3, .int v3)]) (st' := []) (h2 := (83, I, R0 p)) (by rcases hs with rfl | rfl <;> rcases hq with rfl | rfl <;> rfl) ?_
  refine TT_sub (lv2 := [(0, .ref s), (1, .ref q), (2, .int v2), (3, .int v3), (4, .int x9)]) rfl rfl ⟨rfl, rfl, rfl, rfl, rfl, trivial⟩ ?_
  exact hk3 v2 v3 x9 _ _ hg
def g_X5_letClerksTurn_35 (n : Nat) (s : Nat) (q : Nat) (k3 : Int32 → Int32 → Int32 → IH → Option (IH)) (v2 : Int32) (v3 : Int32) (v4 : Int32) (t0 : Int32) (t1 : Int32) (I : IH) : Option (IH) :=
  bnd ((t1 - t0)) fun x5 =>
  if inB v4 8 = true then
    bnd (I ((q + 11)) (Int32.toNatClampNeg v4)) fun x7 =>
    if x5 < 0 then
      g_X5_letClerksTurn_81 n s q k3 v2 v3 v4 I
    else
      if x7 ≤ 0 then
        g_X5_letClerksTurn_81 n s q k3 v2 v3 v4 I
      else
        if x7 = 0 then none else
        if (x5 - x5 / x7 * x7) = 0 then
          if inB v4 8 = true then
            bnd (I ((q + 10)) (Int32.toNatClampNeg v4)) fun x14 =>
            if inB x14 8 = true then
              bnd (I ((q + 9)) (Int32.toNatClampNeg x14)) fun x16 =>
              match g_X5_flip n s x16 I with
              | none => none
              | some J19 =>
                g_X5_letClerksTurn_81 n s q k3 v2 v3 v4 J19
            else none
          else none
        else
          g_X5_letClerksTurn_81 n s q k3 v2 v3 v4 I
  else none
set_option maxRecDepth 20000 in
theorem t_X5_letClerksTurn_35 {s : Nat} (hs : s = 31 ∨ s = 33) {q : Nat} (hq : q = 5 ∨ q = 18) {p : Nat} {n : Nat} {k3 : Int32 → Int32 → Int32 → IH → Option (IH)} (hk3 : ∀ (v2 : Int32) (v3 : Int32) (v4 : Int32) (I : IH) (w : IH), k3 v2 v3 v4 I = some w → TT none mt_X5_letClerksTurn 3 [(0, .ref s), (1, .ref q), (2, .int v2), (3, .int v3), (4, .int v4)] [] (83, I, R0 p) none (83, w, R0 p)) {v2 : Int32} {v3 : Int32} {v4 : Int32} {t0 : Int32} {t1 : Int32} {I : IH} {w : IH} (hg : g_X5_letClerksTurn_35 n s q k3 v2 v3 v4 t0 t1 I = some w) : TT none mt_X5_letClerksTurn 35 [(0, .ref s), (1, .ref q), (2, .int v2), (3, .int v3), (4, .int v4)] [.int t0, .int t1] (83, I, R0 p) none (83, w, R0 p) := by
  unfold g_X5_letClerksTurn_35 at hg
  obtain ⟨x5, hx5⟩ : ∃ x : Int32, x = ((t1 - t0)) := ⟨_, rfl⟩
  replace hg := bnd_use hx5 hg
  refine TT_go 2 (pc' := 38) (lv' := [(5, .int x5), (0, .ref s), (1, .ref q), (2, .int v2), (3, .int v3), (4, .int v4)]) (st' := []) (h2 := (83, I, R0 p)) (by subst hx5; rcases hs with rfl | rfl <;> rcases hq with rfl | rfl <;> rfl) ?_
  refine TT_go 3 (pc' := 44) (lv' := [(5, .int x5), (0, .ref s), (1, .ref q), (2, .int v2), (3, .int v3), (4, .int v4)]) (st' := [.int v4, .ref (q + 11)]) (h2 := (83, I, R0 p)) (by rcases hs with rfl | rfl <;> rcases hq with rfl | rfl <;> rfl) ?_
  by_cases hb6 : inB v4 8 = true
  rotate_left
  · rw [if_neg hb6] at hg; cases hg
  rw [if_pos hb6] at hg
  refine TT_iald (n := 8) rfl (by rcases hs with rfl | rfl <;> rcases hq with rfl | rfl <;> rfl) hb6 ?_
  obtain ⟨x7, hx7⟩ : ∃ x : Int32, x = (I ((q + 11)) (Int32.toNatClampNeg v4)) := ⟨_, rfl⟩
  replace hg := bnd_use hx7 hg
  refine TT_go 0 (pc' := 45) (lv' := [(5, .int x5), (0, .ref s), (1, .ref q), (2, .int v2), (3, .int v3), (4, .int v4)]) (st' := [.int x7]) (h2 := (83, I, R0 p)) (by subst hx7; rcases hs with rfl | rfl <;> rcases hq with rfl | rfl <;> rfl) ?_
  refine TT_go 2 (pc' := 49) (lv' := [(6, .int x7), (5, .int x5), (0, .ref s), (1, .ref q), (2, .int v2), (3, .int v3), (4, .int v4)]) (st' := [.int x5]) (h2 := (83, I, R0 p)) (by rcases hs with rfl | rfl <;> rcases hq with rfl | rfl <;> rfl) ?_
  by_cases hc8 : x5 < 0
  · rw [if_pos hc8] at hg
    refine TT_zlt_t (t := 81) rfl rfl hc8 ?_
    refine TT_go 0 (pc' := 81) (lv' := [(6, .int x7), (5, .int x5), (0, .ref s), (1, .ref q), (2, .int v2), (3, .int v3), (4, .int v4)]) (st' := []) (h2 := (83, I, R0 p)) (by rcases hs with rfl | rfl <;> rcases hq with rfl | rfl <;> rfl) ?_
    refine TT_sub (lv2 := [(0, .ref s), (1, .ref q), (2, .int v2), (3, .int v3), (4, .int v4)]) rfl rfl ⟨rfl, rfl, rfl, rfl, rfl, trivial⟩ ?_
    exact t_X5_letClerksTurn_81 hs hq hk3 hg
  · rw [if_neg hc8] at hg
    refine TT_zlt_f (t := 81) rfl rfl hc8 ?_
    refine TT_go 1 (pc' := 54) (lv' := [(6, .int x7), (5, .int x5), (0, .ref s), (1, .ref q), (2, .int v2), (3, .int v3), (4, .int v4)]) (st' := [.int x7]) (h2 := (83, I, R0 p)) (by rcases hs with rfl | rfl <;> rcases hq with rfl | rfl <;> rfl) ?_
    by_cases hc10 : x7 ≤ 0
    · rw [if_pos hc10] at hg
      refine TT_zle_t (t := 81) rfl rfl hc10 ?_
      refine TT_go 0 (pc' := 81) (lv' := [(6, .int x7), (5, .int x5), (0, .ref s), (1, .ref q), (2, .int v2), (3, .int v3), (4, .int v4)]) (st' := []) (h2 := (83, I, R0 p)) (by rcases hs with rfl | rfl <;> rcases hq with rfl | rfl <;> rfl) ?_
      refine TT_sub (lv2 := [(0, .ref s), (1, .ref q), (2, .int v2), (3, .int v3), (4, .int v4)]) rfl rfl ⟨rfl, rfl, rfl, rfl, rfl, trivial⟩ ?_
      exact t_X5_letClerksTurn_81 hs hq hk3 hg
    · rw [if_neg hc10] at hg
      refine TT_zle_f (t := 81) rfl rfl hc10 ?_
      refine TT_go 2 (pc' := 61) (lv' := [(6, .int x7), (5, .int x5), (0, .ref s), (1, .ref q), (2, .int v2), (3, .int v3), (4, .int v4)]) (st' := [.int x7, .int x5]) (h2 := (83, I, R0 p)) (by rcases hs with rfl | rfl <;> rcases hq with rfl | rfl <;> rfl) ?_
      by_cases hc11 : x7 = 0
      · rw [if_pos hc11] at hg; cases hg
      rw [if_neg hc11] at hg
      refine TT_irem rfl hc11 ?_
      refine TT_go 0 (pc' := 62) (lv' := [(6, .int x7), (5, .int x5), (0, .ref s), (1, .ref q), (2, .int v2), (3, .int v3), (4, .int v4)]) (st' := [.int (x5 - x5 / x7 * x7)]) (h2 := (83, I, R0 p)) (by rcases hs with rfl | rfl <;> rcases hq with rfl | rfl <;> rfl) ?_
      by_cases hc12 : (x5 - x5 / x7 * x7) = 0
      · rw [if_pos hc12] at hg
        refine TT_zne_f (t := 81) rfl rfl hc12 ?_
        refine TT_go 6 (pc' := 76) (lv' := [(6, .int x7), (5, .int x5), (0, .ref s), (1, .ref q), (2, .int v2), (3, .int v3), (4, .int v4)]) (st' := [.int v4, .ref (q + 10), .ref (q + 9), .ref s]) (h2 := (83, I, R0 p)) (by rcases hs with rfl | rfl <;> rcases hq with rfl | rfl <;> rfl) ?_
        by_cases hb13 : inB v4 8 = true
        rotate_left
        · rw [if_neg hb13] at hg; cases hg
        rw [if_pos hb13] at hg
        refine TT_iald (n := 8) rfl (by rcases hs with rfl | rfl <;> rcases hq with rfl | rfl <;> rfl) hb13 ?_
        obtain ⟨x14, hx14⟩ : ∃ x : Int32, x = (I ((q + 10)) (Int32.toNatClampNeg v4)) := ⟨_, rfl⟩
        replace hg := bnd_use hx14 hg
        refine TT_go 0 (pc' := 77) (lv' := [(6, .int x7), (5, .int x5), (0, .ref s), (1, .ref q), (2, .int v2), (3, .int v3), (4, .int v4)]) (st' := [.int x14, .ref (q + 9), .ref s]) (h2 := (83, I, R0 p)) (by subst hx14; rcases hs with rfl | rfl <;> rcases hq with rfl | rfl <;> rfl) ?_
        by_cases hb15 : inB x14 8 = true
        rotate_left
        · rw [if_neg hb15] at hg; cases hg
        rw [if_pos hb15] at hg
        refine TT_iald (n := 8) rfl (by rcases hs with rfl | rfl <;> rcases hq with rfl | rfl <;> rfl) hb15 ?_
        obtain ⟨x16, hx16⟩ : ∃ x : Int32, x = (I ((q + 9)) (Int32.toNatClampNeg x14)) := ⟨_, rfl⟩
        replace hg := bnd_use hx16 hg
        refine TT_go 0 (pc' := 78) (lv' := [(6, .int x7), (5, .int x5), (0, .ref s), (1, .ref q), (2, .int v2), (3, .int v3), (4, .int v4)]) (st' := [.int x16, .ref s]) (h2 := (83, I, R0 p)) (by subst hx16; rcases hs with rfl | rfl <;> rcases hq with rfl | rfl <;> rfl) ?_
        cases hq17 : g_X5_flip n s x16 I with
        | none => rw [hq17] at hg; cases hg
        | some w18 =>
          obtain ⟨J19, hJ19⟩ : ∃ J, J = w18 := ⟨_, rfl⟩
          rw [← hJ19] at hq17
          rw [hq17] at hg
          dsimp only at hg
          refine TT_call (me' := mt_X5_flip) (as := [.ref s, .int x16]) (rest := []) (r1 := none) (h1 := (83, J19, R0 p)) rfl rfl (by rcases hs with rfl | rfl <;> rcases hq with rfl | rfl <;> rfl) (t_X5_flip hs hq17) ?_
          refine TT_go 0 (pc' := 81) (lv' := [(6, .int x7), (5, .int x5), (0, .ref s), (1, .ref q), (2, .int v2), (3, .int v3), (4, .int v4)]) (st' := []) (h2 := (83, J19, R0 p)) (by rcases hs with rfl | rfl <;> rcases hq with rfl | rfl <;> rfl) ?_
          refine TT_sub (lv2 := [(0, .ref s), (1, .ref q), (2, .int v2), (3, .int v3), (4, .int v4)]) rfl rfl ⟨rfl, rfl, rfl, rfl, rfl, trivial⟩ ?_
          exact t_X5_letClerksTurn_81 hs hq hk3 hg
      · rw [if_neg hc12] at hg
        refine TT_zne_t (t := 81) rfl rfl hc12 ?_
        refine TT_go 0 (pc' := 81) (lv' := [(6, .int x7), (5, .int x5), (0, .ref s), (1, .ref q), (2, .int v2), (3, .int v3), (4, .int v4)]) (st' := []) (h2 := (83, I, R0 p)) (by rcases hs with rfl | rfl <;> rcases hq with rfl | rfl <;> rfl) ?_
        refine TT_sub (lv2 := [(0, .ref s), (1, .ref q), (2, .int v2), (3, .int v3), (4, .int v4)]) rfl rfl ⟨rfl, rfl, rfl, rfl, rfl, trivial⟩ ?_
        exact t_X5_letClerksTurn_81 hs hq hk3 hg
def g_X5_letClerksTurn_3 (s : Nat) (q : Nat) : Nat → Int32 → Int32 → Int32 → IH → Option (IH)
  | 0, _, _, _, _ => none
  | n + 1, v2, v3, v4, I =>
    if (I q 11) ≤ v4 then
      some I
    else
      if inB v4 8 = true then
        bnd (I ((q + 12)) (Int32.toNatClampNeg v4)) fun x3 =>
        if v4 = v2 then
          g_X5_letClerksTurn_35 n s q (g_X5_letClerksTurn_3 s q n) v2 v3 v4 v3 (((I s 2) - x3)) I
        else
          g_X5_letClerksTurn_35 n s q (g_X5_letClerksTurn_3 s q n) v2 v3 v4 0 (((I s 2) - x3)) I
      else none
set_option maxRecDepth 20000 in
theorem t_X5_letClerksTurn_3 {s : Nat} (hs : s = 31 ∨ s = 33) {q : Nat} (hq : q = 5 ∨ q = 18) {p : Nat} : ∀ (n : Nat) (v2 : Int32) (v3 : Int32) (v4 : Int32) (I : IH) (w : IH), g_X5_letClerksTurn_3 s q n v2 v3 v4 I = some w → TT none mt_X5_letClerksTurn 3 [(0, .ref s), (1, .ref q), (2, .int v2), (3, .int v3), (4, .int v4)] [] (83, I, R0 p) none (83, w, R0 p) := by
  intro n
  induction n with
  | zero => intro v2 v3 v4 I w hg; cases hg
  | succ n ih =>
    intro v2 v3 v4 I w hg
    unfold g_X5_letClerksTurn_3 at hg
    refine TT_go 3 (pc' := 9) (lv' := [(0, .ref s), (1, .ref q), (2, .int v2), (3, .int v3), (4, .int v4)]) (st' := [.int (I q 11), .int v4]) (h2 := (83, I, R0 p)) (by rcases hs with rfl | rfl <;> rcases hq with rfl | rfl <;> rfl) ?_
    by_cases hc1 : (I q 11) ≤ v4
    · rw [if_pos hc1] at hg
      refine TT_ige_t (t := 87) rfl rfl hc1 ?_
      refine TT_go 0 (pc' := 87) (lv' := [(0, .ref s), (1, .ref q), (2, .int v2), (3, .int v3), (4, .int v4)]) (st' := []) (h2 := (83, I, R0 p)) (by rcases hs with rfl | rfl <;> rcases hq with rfl | rfl <;> rfl) ?_
      have hg := Option.some.inj hg
      subst hg
      exact TT_ret rfl rfl
    · rw [if_neg hc1] at hg
      refine TT_ige_f (t := 87) rfl rfl hc1 ?_
      refine TT_go 5 (pc' := 22) (lv' := [(0, .ref s), (1, .ref q), (2, .int v2), (3, .int v3), (4, .int v4)]) (st' := [.int v4, .ref (q + 12), .int (I s 2)]) (h2 := (83, I, R0 p)) (by rcases hs with rfl | rfl <;> rcases hq with rfl | rfl <;> rfl) ?_
      by_cases hb2 : inB v4 8 = true
      rotate_left
      · rw [if_neg hb2] at hg; cases hg
      rw [if_pos hb2] at hg
      refine TT_iald (n := 8) rfl (by rcases hs with rfl | rfl <;> rcases hq with rfl | rfl <;> rfl) hb2 ?_
      obtain ⟨x3, hx3⟩ : ∃ x : Int32, x = (I ((q + 12)) (Int32.toNatClampNeg v4)) := ⟨_, rfl⟩
      replace hg := bnd_use hx3 hg
      refine TT_go 0 (pc' := 23) (lv' := [(0, .ref s), (1, .ref q), (2, .int v2), (3, .int v3), (4, .int v4)]) (st' := [.int x3, .int (I s 2)]) (h2 := (83, I, R0 p)) (by subst hx3; rcases hs with rfl | rfl <;> rcases hq with rfl | rfl <;> rfl) ?_
      refine TT_go 3 (pc' := 27) (lv' := [(0, .ref s), (1, .ref q), (2, .int v2), (3, .int v3), (4, .int v4)]) (st' := [.int v2, .int v4, .int ((I s 2) - x3)]) (h2 := (83, I, R0 p)) (by rcases hs with rfl | rfl <;> rcases hq with rfl | rfl <;> rfl) ?_
      by_cases hc4 : v4 = v2
      · rw [if_pos hc4] at hg
        refine TT_ine_f (t := 34) rfl rfl hc4 ?_
        refine TT_go 2 (pc' := 35) (lv' := [(0, .ref s), (1, .ref q), (2, .int v2), (3, .int v3), (4, .int v4)]) (st' := [.int v3, .int ((I s 2) - x3)]) (h2 := (83, I, R0 p)) (by rcases hs with rfl | rfl <;> rcases hq with rfl | rfl <;> rfl) ?_
        refine TT_sub (lv2 := [(0, .ref s), (1, .ref q), (2, .int v2), (3, .int v3), (4, .int v4)]) rfl rfl ⟨rfl, rfl, rfl, rfl, rfl, trivial⟩ ?_
        exact t_X5_letClerksTurn_35 hs hq ih hg
      · rw [if_neg hc4] at hg
        refine TT_ine_t (t := 34) rfl rfl hc4 ?_
        refine TT_go 1 (pc' := 35) (lv' := [(0, .ref s), (1, .ref q), (2, .int v2), (3, .int v3), (4, .int v4)]) (st' := [.int 0, .int ((I s 2) - x3)]) (h2 := (83, I, R0 p)) (by rcases hs with rfl | rfl <;> rcases hq with rfl | rfl <;> rfl) ?_
        refine TT_sub (lv2 := [(0, .ref s), (1, .ref q), (2, .int v2), (3, .int v3), (4, .int v4)]) rfl rfl ⟨rfl, rfl, rfl, rfl, rfl, trivial⟩ ?_
        exact t_X5_letClerksTurn_35 hs hq ih hg
def g_X5_letClerksTurn (n : Nat) (s : Nat) (q : Nat) (a1 : Int32) (a2 : Int32) (I : IH) : Option (IH) :=
  g_X5_letClerksTurn_3 s q n a1 a2 0 I
set_option maxRecDepth 20000 in
theorem t_X5_letClerksTurn {s : Nat} (hs : s = 31 ∨ s = 33) {q : Nat} (hq : q = 5 ∨ q = 18) {p : Nat} {n : Nat} {a1 : Int32} {a2 : Int32} {I : IH} {w : IH} (hg : g_X5_letClerksTurn n s q a1 a2 I = some w) : TT none mt_X5_letClerksTurn 0 (lv_args 0 [.ref s, .ref q, .int a1, .int a2]) [] (83, I, R0 p) none (83, w, R0 p) := by
  unfold g_X5_letClerksTurn at hg
  refine TT_go 2 (pc' := 3) (lv' := [(4, .int 0), (0, .ref s), (1, .ref q), (2, .int a1), (3, .int a2)]) (st' := []) (h2 := (83, I, R0 p)) (by rcases hs with rfl | rfl <;> rcases hq with rfl | rfl <;> rfl) ?_
  refine TT_sub (lv2 := [(0, .ref s), (1, .ref q), (2, .int a1), (3, .int a2), (4, .int 0)]) rfl rfl ⟨rfl, rfl, rfl, rfl, rfl, trivial⟩ ?_
  exact t_X5_letClerksTurn_3 hs hq n a1 a2 0 _ _ hg
def g_X1_draw (n : Nat) (a0 : Int32) (a1 : Int32) (a2 : Int32) (I : IH) : Option (Int32 × IH) :=
  bnd (((((7919 * (Int32.toInt64 a0)) + (6151 * (Int32.toInt64 a1))) + (3571 * (Int32.toInt64 a2))) + 1)) fun x1 =>
  some ((Int64.toInt32 (((x1 * x1) - (x1 * x1) / 65521 * 65521) - ((x1 * x1) - (x1 * x1) / 65521 * 65521) / 1000 * 1000)), I)
set_option maxRecDepth 20000 in
theorem t_X1_draw {p : Nat} {n : Nat} {a0 : Int32} {a1 : Int32} {a2 : Int32} {I : IH} {w : Int32 × IH} (hg : g_X1_draw n a0 a1 a2 I = some w) : TT none mt_X1_draw 0 (lv_args 0 [.int a0, .int a1, .int a2]) [] (83, I, R0 p) (some (.int w.1)) (83, w.2, R0 p) := by
  unfold g_X1_draw at hg
  obtain ⟨x1, hx1⟩ : ∃ x : Int64, x = (((((7919 * (Int32.toInt64 a0)) + (6151 * (Int32.toInt64 a1))) + (3571 * (Int32.toInt64 a2))) + 1)) := ⟨_, rfl⟩
  replace hg := bnd_use hx1 hg
  refine TT_go 17 (pc' := 23) (lv' := [(3, .long x1), (0, .int a0), (1, .int a1), (2, .int a2)]) (st' := []) (h2 := (83, I, R0 p)) (by subst hx1; rfl) ?_
  refine TT_go 8 (pc' := 35) (lv' := [(3, .long x1), (0, .int a0), (1, .int a1), (2, .int a2)]) (st' := [.int (Int64.toInt32 (((x1 * x1) - (x1 * x1) / 65521 * 65521) - ((x1 * x1) - (x1 * x1) / 65521 * 65521) / 1000 * 1000))]) (h2 := (83, I, R0 p)) (by rfl) ?_
  have hg := Option.some.inj hg
  subst hg
  exact TT_ret rfl rfl
def g_X1_lose (n : Nat) (a1 : Int32) (a2 : Int32) (I : IH) : Option (IH) :=
  if inB a1 16 = true then
    bnd (I 34 (Int32.toNatClampNeg a1)) fun x2 =>
    if inB a1 16 = true then
      bnd (up2 I 34 (Int32.toNatClampNeg a1) (x2 - a2)) fun J4 =>
      bnd (up2 J4 47 0 ((J4 47 0) + a2)) fun J5 =>
      some J5
    else none
  else none
set_option maxRecDepth 20000 in
theorem t_X1_lose {p : Nat} {n : Nat} {a1 : Int32} {a2 : Int32} {I : IH} {w : IH} (hg : g_X1_lose n a1 a2 I = some w) : TT none mt_X1_lose 0 (lv_args 0 [.ref 47, .ref 33, .int a1, .int a2]) [] (83, I, R0 p) none (83, w, R0 p) := by
  unfold g_X1_lose at hg
  refine TT_go 4 (pc' := 6) (lv' := [(0, .ref 47), (1, .ref 33), (2, .int a1), (3, .int a2)]) (st' := [.int a1, .ref 34, .int a1, .ref 34]) (h2 := (83, I, R0 p)) (by rfl) ?_
  by_cases hb1 : inB a1 16 = true
  rotate_left
  · rw [if_neg hb1] at hg; cases hg
  rw [if_pos hb1] at hg
  refine TT_iald (n := 16) rfl (by rfl) hb1 ?_
  obtain ⟨x2, hx2⟩ : ∃ x : Int32, x = (I 34 (Int32.toNatClampNeg a1)) := ⟨_, rfl⟩
  replace hg := bnd_use hx2 hg
  refine TT_go 0 (pc' := 7) (lv' := [(0, .ref 47), (1, .ref 33), (2, .int a1), (3, .int a2)]) (st' := [.int x2, .int a1, .ref 34]) (h2 := (83, I, R0 p)) (by subst hx2; rfl) ?_
  refine TT_go 2 (pc' := 9) (lv' := [(0, .ref 47), (1, .ref 33), (2, .int a1), (3, .int a2)]) (st' := [.int (x2 - a2), .int a1, .ref 34]) (h2 := (83, I, R0 p)) (by rfl) ?_
  by_cases hb3 : inB a1 16 = true
  rotate_left
  · rw [if_neg hb3] at hg; cases hg
  rw [if_pos hb3] at hg
  refine TT_iast (n := 16) rfl (by rfl) hb3 ?_
  obtain ⟨J4, hJ4⟩ : ∃ x : IH, x = (up2 I 34 (Int32.toNatClampNeg a1) (x2 - a2)) := ⟨_, rfl⟩
  replace hg := bnd_use hJ4 hg
  refine TT_go 0 (pc' := 10) (lv' := [(0, .ref 47), (1, .ref 33), (2, .int a1), (3, .int a2)]) (st' := []) (h2 := (83, J4, R0 p)) (by subst hJ4; rfl) ?_
  obtain ⟨J5, hJ5⟩ : ∃ x : IH, x = (up2 J4 47 0 ((J4 47 0) + a2)) := ⟨_, rfl⟩
  replace hg := bnd_use hJ5 hg
  refine TT_go 6 (pc' := 20) (lv' := [(0, .ref 47), (1, .ref 33), (2, .int a1), (3, .int a2)]) (st' := []) (h2 := (83, J5, R0 p)) (by subst hJ5; rfl) ?_
  have hg := Option.some.inj hg
  subst hg
  exact TT_ret rfl rfl
def g_X5_upperSide (n : Nat) (s : Nat) (a0 : Int32) (I : IH) : Option (Int32 × IH) :=
  some ((((I s 1) >>> (a0 &&& 31)) &&& 1), I)
set_option maxRecDepth 20000 in
theorem t_X5_upperSide {s : Nat} (hs : s = 31 ∨ s = 33) {p : Nat} {n : Nat} {a0 : Int32} {I : IH} {w : Int32 × IH} (hg : g_X5_upperSide n s a0 I = some w) : TT none mt_X5_upperSide 0 (lv_args 0 [.ref s, .int a0]) [] (83, I, R0 p) (some (.int w.1)) (83, w.2, R0 p) := by
  unfold g_X5_upperSide at hg
  refine TT_go 6 (pc' := 8) (lv' := [(0, .ref s), (1, .int a0)]) (st' := [.int (((I s 1) >>> (a0 &&& 31)) &&& 1)]) (h2 := (83, I, R0 p)) (by rcases hs with rfl | rfl <;> rfl) ?_
  have hg := Option.some.inj hg
  subst hg
  exact TT_ret rfl rfl
def g_X5_upperBulb (n : Nat) (s : Nat) (a0 : Int32) (I : IH) : Option (Int32 × IH) :=
  match g_X5_upperSide n s a0 I with
  | none => none
  | some (r4, J3) =>
    some (((2 * a0) + r4), J3)
set_option maxRecDepth 20000 in
theorem t_X5_upperBulb {s : Nat} (hs : s = 31 ∨ s = 33) {p : Nat} {n : Nat} {a0 : Int32} {I : IH} {w : Int32 × IH} (hg : g_X5_upperBulb n s a0 I = some w) : TT none mt_X5_upperBulb 0 (lv_args 0 [.ref s, .int a0]) [] (83, I, R0 p) (some (.int w.1)) (83, w.2, R0 p) := by
  unfold g_X5_upperBulb at hg
  refine TT_go 5 (pc' := 5) (lv' := [(0, .ref s), (1, .int a0)]) (st' := [.int a0, .ref s, .int (2 * a0)]) (h2 := (83, I, R0 p)) (by rcases hs with rfl | rfl <;> rfl) ?_
  cases hq1 : g_X5_upperSide n s a0 I with
  | none => rw [hq1] at hg; cases hg
  | some w2 =>
    obtain ⟨r4, J3⟩ := w2
    rw [hq1] at hg
    dsimp only at hg
    refine TT_call (me' := mt_X5_upperSide) (as := [.ref s, .int a0]) (rest := [.int (2 * a0)]) (r1 := some (.int r4)) (h1 := (83, J3, R0 p)) rfl rfl (by rcases hs with rfl | rfl <;> rfl) (t_X5_upperSide hs hq1) ?_
    refine TT_go 1 (pc' := 9) (lv' := [(0, .ref s), (1, .int a0)]) (st' := [.int ((2 * a0) + r4)]) (h2 := (83, J3, R0 p)) (by rcases hs with rfl | rfl <;> rfl) ?_
    have hg := Option.some.inj hg
    subst hg
    exact TT_ret rfl rfl
def g_X1_befall (n : Nat) (q : Nat) (a2 : Int32) (a3 : Int32) (I : IH) : Option (IH) :=
  if (I q 15) ≤ a3 then
    if ((I q 15) + (I q 16)) ≤ a3 then
      some I
    else
      match g_X5_upperBulb n 33 a2 I with
      | none => none
      | some (r6, J5) =>
        if inB r6 16 = true then
          bnd (J5 34 (Int32.toNatClampNeg r6)) fun x8 =>
          match g_X1_lose n r6 (if x8 < 3 then x8 else 3) J5 with
          | none => none
          | some J11 =>
            some J11
        else none
  else
    bnd (up2 I 47 2 ((I 47 2) ||| (1 <<< (a2 &&& 31)))) fun J12 =>
    bnd (up2 J12 47 1 ((J12 47 1) + 1)) fun J13 =>
    if inB (2 * a2) 16 = true then
      bnd (J13 34 (Int32.toNatClampNeg (2 * a2))) fun x15 =>
      match g_X1_lose n (2 * a2) x15 J13 with
      | none => none
      | some J18 =>
        if inB ((2 * a2) + 1) 16 = true then
          bnd (J18 34 (Int32.toNatClampNeg ((2 * a2) + 1))) fun x20 =>
          match g_X1_lose n ((2 * a2) + 1) x20 J18 with
          | none => none
          | some J23 =>
            some J23
        else none
    else none
set_option maxRecDepth 20000 in
theorem t_X1_befall {q : Nat} (hq : q = 5 ∨ q = 18) {p : Nat} {n : Nat} {a2 : Int32} {a3 : Int32} {I : IH} {w : IH} (hg : g_X1_befall n q a2 a3 I = some w) : TT none mt_X1_befall 0 (lv_args 0 [.ref 47, .ref q, .ref 33, .int a2, .int a3]) [] (83, I, R0 p) none (83, w, R0 p) := by
  unfold g_X1_befall at hg
  refine TT_go 3 (pc' := 6) (lv' := [(0, .ref 47), (1, .ref q), (2, .ref 33), (3, .int a2), (4, .int a3)]) (st' := [.int (I q 15), .int a3]) (h2 := (83, I, R0 p)) (by rcases hq with rfl | rfl <;> rfl) ?_
  by_cases hc1 : (I q 15) ≤ a3
  · rw [if_pos hc1] at hg
    refine TT_ige_t (t := 70) rfl rfl hc1 ?_
    refine TT_go 6 (pc' := 81) (lv' := [(0, .ref 47), (1, .ref q), (2, .ref 33), (3, .int a2), (4, .int a3)]) (st' := [.int ((I q 15) + (I q 16)), .int a3]) (h2 := (83, I, R0 p)) (by rcases hq with rfl | rfl <;> rfl) ?_
    by_cases hc2 : ((I q 15) + (I q 16)) ≤ a3
    · rw [if_pos hc2] at hg
      refine TT_ige_t (t := 109) rfl rfl hc2 ?_
      refine TT_go 0 (pc' := 109) (lv' := [(0, .ref 47), (1, .ref q), (2, .ref 33), (3, .int a2), (4, .int a3)]) (st' := []) (h2 := (83, I, R0 p)) (by rcases hq with rfl | rfl <;> rfl) ?_
      have hg := Option.some.inj hg
      subst hg
      exact TT_ret rfl rfl
    · rw [if_neg hc2] at hg
      refine TT_ige_f (t := 109) rfl rfl hc2 ?_
      refine TT_go 2 (pc' := 86) (lv' := [(0, .ref 47), (1, .ref q), (2, .ref 33), (3, .int a2), (4, .int a3)]) (st' := [.int a2, .ref 33]) (h2 := (83, I, R0 p)) (by rcases hq with rfl | rfl <;> rfl) ?_
      cases hq3 : g_X5_upperBulb n 33 a2 I with
      | none => rw [hq3] at hg; cases hg
      | some w4 =>
        obtain ⟨r6, J5⟩ := w4
        rw [hq3] at hg
        dsimp only at hg
        refine TT_call (me' := mt_X5_upperBulb) (as := [.ref 33, .int a2]) (rest := []) (r1 := some (.int r6)) (h1 := (83, J5, R0 p)) rfl rfl (by rcases hq with rfl | rfl <;> rfl) (t_X5_upperBulb (Or.inr rfl) hq3) ?_
        refine TT_go 8 (pc' := 102) (lv' := [(5, .int r6), (0, .ref 47), (1, .ref q), (2, .ref 33), (3, .int a2), (4, .int a3)]) (st' := [.int r6, .ref 34, .int 3, .int r6, .ref 33, .ref 47]) (h2 := (83, J5, R0 p)) (by rcases hq with rfl | rfl <;> rfl) ?_
        by_cases hb7 : inB r6 16 = true
        rotate_left
        · rw [if_neg hb7] at hg; cases hg
        rw [if_pos hb7] at hg
        refine TT_iald (n := 16) rfl (by rcases hq with rfl | rfl <;> rfl) hb7 ?_
        obtain ⟨x8, hx8⟩ : ∃ x : Int32, x = (J5 34 (Int32.toNatClampNeg r6)) := ⟨_, rfl⟩
        replace hg := bnd_use hx8 hg
        refine TT_go 0 (pc' := 103) (lv' := [(5, .int r6), (0, .ref 47), (1, .ref q), (2, .ref 33), (3, .int a2), (4, .int a3)]) (st' := [.int x8, .int 3, .int r6, .ref 33, .ref 47]) (h2 := (83, J5, R0 p)) (by subst hx8; rcases hq with rfl | rfl <;> rfl) ?_
        refine TT_go 1 (pc' := 106) (lv' := [(5, .int r6), (0, .ref 47), (1, .ref q), (2, .ref 33), (3, .int a2), (4, .int a3)]) (st' := [.int (if x8 < 3 then x8 else 3), .int r6, .ref 33, .ref 47]) (h2 := (83, J5, R0 p)) (by rcases hq with rfl | rfl <;> rfl) ?_
        cases hq9 : g_X1_lose n r6 (if x8 < 3 then x8 else 3) J5 with
        | none => rw [hq9] at hg; cases hg
        | some w10 =>
          obtain ⟨J11, hJ11⟩ : ∃ J, J = w10 := ⟨_, rfl⟩
          rw [← hJ11] at hq9
          rw [hq9] at hg
          dsimp only at hg
          refine TT_call (me' := mt_X1_lose) (as := [.ref 47, .ref 33, .int r6, .int (if x8 < 3 then x8 else 3)]) (rest := []) (r1 := none) (h1 := (83, J11, R0 p)) rfl rfl (by rcases hq with rfl | rfl <;> rfl) (t_X1_lose hq9) ?_
          refine TT_go 0 (pc' := 109) (lv' := [(5, .int r6), (0, .ref 47), (1, .ref q), (2, .ref 33), (3, .int a2), (4, .int a3)]) (st' := []) (h2 := (83, J11, R0 p)) (by rcases hq with rfl | rfl <;> rfl) ?_
          have hg := Option.some.inj hg
          subst hg
          exact TT_ret rfl rfl
  · rw [if_neg hc1] at hg
    refine TT_ige_f (t := 70) rfl rfl hc1 ?_
    obtain ⟨J12, hJ12⟩ : ∃ x : IH, x = (up2 I 47 2 ((I 47 2) ||| (1 <<< (a2 &&& 31)))) := ⟨_, rfl⟩
    replace hg := bnd_use hJ12 hg
    refine TT_go 8 (pc' := 21) (lv' := [(0, .ref 47), (1, .ref q), (2, .ref 33), (3, .int a2), (4, .int a3)]) (st' := []) (h2 := (83, J12, R0 p)) (by subst hJ12; rcases hq with rfl | rfl <;> rfl) ?_
    obtain ⟨J13, hJ13⟩ : ∃ x : IH, x = (up2 J12 47 1 ((J12 47 1) + 1)) := ⟨_, rfl⟩
    replace hg := bnd_use hJ13 hg
    refine TT_go 6 (pc' := 31) (lv' := [(0, .ref 47), (1, .ref q), (2, .ref 33), (3, .int a2), (4, .int a3)]) (st' := []) (h2 := (83, J13, R0 p)) (by subst hJ13; rcases hq with rfl | rfl <;> rfl) ?_
    refine TT_go 10 (pc' := 43) (lv' := [(0, .ref 47), (1, .ref q), (2, .ref 33), (3, .int a2), (4, .int a3)]) (st' := [.int (2 * a2), .ref 34, .int (2 * a2), .ref 33, .ref 47]) (h2 := (83, J13, R0 p)) (by rcases hq with rfl | rfl <;> rfl) ?_
    by_cases hb14 : inB (2 * a2) 16 = true
    rotate_left
    · rw [if_neg hb14] at hg; cases hg
    rw [if_pos hb14] at hg
    refine TT_iald (n := 16) rfl (by rcases hq with rfl | rfl <;> rfl) hb14 ?_
    obtain ⟨x15, hx15⟩ : ∃ x : Int32, x = (J13 34 (Int32.toNatClampNeg (2 * a2))) := ⟨_, rfl⟩
    replace hg := bnd_use hx15 hg
    refine TT_go 0 (pc' := 44) (lv' := [(0, .ref 47), (1, .ref q), (2, .ref 33), (3, .int a2), (4, .int a3)]) (st' := [.int x15, .int (2 * a2), .ref 33, .ref 47]) (h2 := (83, J13, R0 p)) (by subst hx15; rcases hq with rfl | rfl <;> rfl) ?_
    cases hq16 : g_X1_lose n (2 * a2) x15 J13 with
    | none => rw [hq16] at hg; cases hg
    | some w17 =>
      obtain ⟨J18, hJ18⟩ : ∃ J, J = w17 := ⟨_, rfl⟩
      rw [← hJ18] at hq16
      rw [hq16] at hg
      dsimp only at hg
      refine TT_call (me' := mt_X1_lose) (as := [.ref 47, .ref 33, .int (2 * a2), .int x15]) (rest := []) (r1 := none) (h1 := (83, J18, R0 p)) rfl rfl (by rcases hq with rfl | rfl <;> rfl) (t_X1_lose hq16) ?_
      refine TT_go 14 (pc' := 63) (lv' := [(0, .ref 47), (1, .ref q), (2, .ref 33), (3, .int a2), (4, .int a3)]) (st' := [.int ((2 * a2) + 1), .ref 34, .int ((2 * a2) + 1), .ref 33, .ref 47]) (h2 := (83, J18, R0 p)) (by rcases hq with rfl | rfl <;> rfl) ?_
      by_cases hb19 : inB ((2 * a2) + 1) 16 = true
      rotate_left
      · rw [if_neg hb19] at hg; cases hg
      rw [if_pos hb19] at hg
      refine TT_iald (n := 16) rfl (by rcases hq with rfl | rfl <;> rfl) hb19 ?_
      obtain ⟨x20, hx20⟩ : ∃ x : Int32, x = (J18 34 (Int32.toNatClampNeg ((2 * a2) + 1))) := ⟨_, rfl⟩
      replace hg := bnd_use hx20 hg
      refine TT_go 0 (pc' := 64) (lv' := [(0, .ref 47), (1, .ref q), (2, .ref 33), (3, .int a2), (4, .int a3)]) (st' := [.int x20, .int ((2 * a2) + 1), .ref 33, .ref 47]) (h2 := (83, J18, R0 p)) (by subst hx20; rcases hq with rfl | rfl <;> rfl) ?_
      cases hq21 : g_X1_lose n ((2 * a2) + 1) x20 J18 with
      | none => rw [hq21] at hg; cases hg
      | some w22 =>
        obtain ⟨J23, hJ23⟩ : ∃ J, J = w22 := ⟨_, rfl⟩
        rw [← hJ23] at hq21
        rw [hq21] at hg
        dsimp only at hg
        refine TT_call (me' := mt_X1_lose) (as := [.ref 47, .ref 33, .int ((2 * a2) + 1), .int x20]) (rest := []) (r1 := none) (h1 := (83, J23, R0 p)) rfl rfl (by rcases hq with rfl | rfl <;> rfl) (t_X1_lose hq21) ?_
        refine TT_go 1 (pc' := 109) (lv' := [(0, .ref 47), (1, .ref q), (2, .ref 33), (3, .int a2), (4, .int a3)]) (st' := []) (h2 := (83, J23, R0 p)) (by rcases hq with rfl | rfl <;> rfl) ?_
        have hg := Option.some.inj hg
        subst hg
        exact TT_ret rfl rfl
def g_X5_flowIn (n : Nat) (q : Nat) (a1 : Int32) (I : IH) : Option (Nat × IH) :=
  if (a1 - a1 / 3 * 3) = 2 then
    some ((q + 7), I)
  else
    some ((q + 6), I)
set_option maxRecDepth 20000 in
theorem t_X5_flowIn {q : Nat} (hq : q = 5 ∨ q = 18) {p : Nat} {n : Nat} {a1 : Int32} {I : IH} {w : Nat × IH} (hg : g_X5_flowIn n q a1 I = some w) : TT none mt_X5_flowIn 0 (lv_args 0 [.ref q, .int a1]) [] (83, I, R0 p) (some (.ref w.1)) (83, w.2, R0 p) := by
  unfold g_X5_flowIn at hg
  refine TT_go 4 (pc' := 4) (lv' := [(0, .ref q), (1, .int a1)]) (st' := [.int 2, .int (a1 - a1 / 3 * 3)]) (h2 := (83, I, R0 p)) (by rcases hq with rfl | rfl <;> rfl) ?_
  by_cases hc1 : (a1 - a1 / 3 * 3) = 2
  · rw [if_pos hc1] at hg
    refine TT_ine_f (t := 14) rfl rfl hc1 ?_
    refine TT_go 3 (pc' := 18) (lv' := [(0, .ref q), (1, .int a1)]) (st' := [.ref (q + 7)]) (h2 := (83, I, R0 p)) (by rcases hq with rfl | rfl <;> rfl) ?_
    have hg := Option.some.inj hg
    subst hg
    exact TT_ret rfl rfl
  · rw [if_neg hc1] at hg
    refine TT_ine_t (t := 14) rfl rfl hc1 ?_
    refine TT_go 2 (pc' := 18) (lv' := [(0, .ref q), (1, .int a1)]) (st' := [.ref (q + 6)]) (h2 := (83, I, R0 p)) (by rcases hq with rfl | rfl <;> rfl) ?_
    have hg := Option.some.inj hg
    subst hg
    exact TT_ret rfl rfl
theorem flowIn_res {n q : Nat} {a : Int32} {I J : IH} {m : Nat} (h : g_X5_flowIn n q a I = some (m, J)) : m = q + 7 ∨ m = q + 6 := by
  simp only [g_X5_flowIn] at h
  split at h
  · cases h; exact Or.inl rfl
  · cases h; exact Or.inr rfl

def g_X5_letSandFall_11 (s : Nat) (q : Nat) : Nat → Nat → Int32 → IH → Option (IH)
  | 0, _, _, _ => none
  | n + 1, m2, v3, I =>
    if (I q 0) ≤ v3 then
      bnd (up2 I s 2 ((I s 2) + 1)) fun J6 =>
      some J6
    else
      bnd (((2 * v3) + (((I s 1) >>> (v3 &&& 31)) &&& 1))) fun x7 =>
      if inB x7 16 = true then
        bnd (I ((s + 1)) (Int32.toNatClampNeg x7)) fun x9 =>
        if inB v3 8 = true then
          bnd (I m2 (Int32.toNatClampNeg v3)) fun x11 =>
          bnd ((if x11 < x9 then x11 else x9)) fun x12 =>
          if inB x7 16 = true then
            bnd (I ((s + 1)) (Int32.toNatClampNeg x7)) fun x14 =>
            if inB x7 16 = true then
              bnd (up2 I ((s + 1)) (Int32.toNatClampNeg x7) (x14 - x12)) fun J16 =>
              if inB (x7 ^^^ 1) 16 = true then
                bnd (J16 ((s + 1)) (Int32.toNatClampNeg (x7 ^^^ 1))) fun x18 =>
                if inB (x7 ^^^ 1) 16 = true then
                  bnd (up2 J16 ((s + 1)) (Int32.toNatClampNeg (x7 ^^^ 1)) (x18 + x12)) fun J20 =>
                  bnd (v3 + 1) fun x21 =>
                  g_X5_letSandFall_11 s q n m2 x21 J20
                else none
              else none
            else none
          else none
        else none
      else none
set_option maxRecDepth 20000 in
theorem t_X5_letSandFall_11 {s : Nat} (hs : s = 31 ∨ s = 33) {q : Nat} (hq : q = 5 ∨ q = 18) {p : Nat} : ∀ (n : Nat) (m2 : Nat) (v3 : Int32) (I : IH) (w : IH) (hm2 : m2 = q + 7 ∨ m2 = q + 6), g_X5_letSandFall_11 s q n m2 v3 I = some w → TT none mt_X5_letSandFall 11 [(0, .ref s), (1, .ref q), (2, .ref m2), (3, .int v3)] [] (83, I, R0 p) none (83, w, R0 p) := by
  intro n
  induction n with
  | zero => intro m2 v3 I w hm2 hg; cases hg
  | succ n ih =>
    intro m2 v3 I w hm2 hg
    unfold g_X5_letSandFall_11 at hg
    refine TT_go 3 (pc' := 16) (lv' := [(0, .ref s), (1, .ref q), (2, .ref m2), (3, .int v3)]) (st' := [.int (I q 0), .int v3]) (h2 := (83, I, R0 p)) (by rcases hm2 with rfl | rfl <;> rcases hs with rfl | rfl <;> rcases hq with rfl | rfl <;> rfl) ?_
    by_cases hc5 : (I q 0) ≤ v3
    · rw [if_pos hc5] at hg
      refine TT_ige_t (t := 80) rfl rfl hc5 ?_
      obtain ⟨J6, hJ6⟩ : ∃ x : IH, x = (up2 I s 2 ((I s 2) + 1)) := ⟨_, rfl⟩
      replace hg := bnd_use hJ6 hg
      refine TT_go 6 (pc' := 90) (lv' := [(0, .ref s), (1, .ref q), (2, .ref m2), (3, .int v3)]) (st' := []) (h2 := (83, J6, R0 p)) (by subst hJ6; rcases hm2 with rfl | rfl <;> rcases hs with rfl | rfl <;> rcases hq with rfl | rfl <;> rfl) ?_
      have hg := Option.some.inj hg
      subst hg
      exact TT_ret rfl rfl
    · rw [if_neg hc5] at hg
      refine TT_ige_f (t := 80) rfl rfl hc5 ?_
      obtain ⟨x7, hx7⟩ : ∃ x : Int32, x = (((2 * v3) + (((I s 1) >>> (v3 &&& 31)) &&& 1))) := ⟨_, rfl⟩
      replace hg := bnd_use hx7 hg
      refine TT_go 11 (pc' := 33) (lv' := [(4, .int x7), (0, .ref s), (1, .ref q), (2, .ref m2), (3, .int v3)]) (st' := []) (h2 := (83, I, R0 p)) (by subst hx7; rcases hm2 with rfl | rfl <;> rcases hs with rfl | rfl <;> rcases hq with rfl | rfl <;> rfl) ?_
      refine TT_go 3 (pc' := 39) (lv' := [(4, .int x7), (0, .ref s), (1, .ref q), (2, .ref m2), (3, .int v3)]) (st' := [.int x7, .ref (s + 1)]) (h2 := (83, I, R0 p)) (by rcases hm2 with rfl | rfl <;> rcases hs with rfl | rfl <;> rcases hq with rfl | rfl <;> rfl) ?_
      by_cases hb8 : inB x7 16 = true
      rotate_left
      · rw [if_neg hb8] at hg; cases hg
      rw [if_pos hb8] at hg
      refine TT_iald (n := 16) rfl (by rcases hm2 with rfl | rfl <;> rcases hs with rfl | rfl <;> rcases hq with rfl | rfl <;> rfl) hb8 ?_
      obtain ⟨x9, hx9⟩ : ∃ x : Int32, x = (I ((s + 1)) (Int32.toNatClampNeg x7)) := ⟨_, rfl⟩
      replace hg := bnd_use hx9 hg
      refine TT_go 0 (pc' := 40) (lv' := [(4, .int x7), (0, .ref s), (1, .ref q), (2, .ref m2), (3, .int v3)]) (st' := [.int x9]) (h2 := (83, I, R0 p)) (by subst hx9; rcases hm2 with rfl | rfl <;> rcases hs with rfl | rfl <;> rcases hq with rfl | rfl <;> rfl) ?_
      refine TT_go 2 (pc' := 42) (lv' := [(4, .int x7), (0, .ref s), (1, .ref q), (2, .ref m2), (3, .int v3)]) (st' := [.int v3, .ref m2, .int x9]) (h2 := (83, I, R0 p)) (by rcases hm2 with rfl | rfl <;> rcases hs with rfl | rfl <;> rcases hq with rfl | rfl <;> rfl) ?_
      by_cases hb10 : inB v3 8 = true
      rotate_left
      · rw [if_neg hb10] at hg; cases hg
      rw [if_pos hb10] at hg
      refine TT_iald (n := 8) rfl (by rcases hm2 with rfl | rfl <;> rcases hs with rfl | rfl <;> rcases hq with rfl | rfl <;> rfl) hb10 ?_
      obtain ⟨x11, hx11⟩ : ∃ x : Int32, x = (I m2 (Int32.toNatClampNeg v3)) := ⟨_, rfl⟩
      replace hg := bnd_use hx11 hg
      refine TT_go 0 (pc' := 43) (lv' := [(4, .int x7), (0, .ref s), (1, .ref q), (2, .ref m2), (3, .int v3)]) (st' := [.int x11, .int x9]) (h2 := (83, I, R0 p)) (by subst hx11; rcases hm2 with rfl | rfl <;> rcases hs with rfl | rfl <;> rcases hq with rfl | rfl <;> rfl) ?_
      obtain ⟨x12, hx12⟩ : ∃ x : Int32, x = ((if x11 < x9 then x11 else x9)) := ⟨_, rfl⟩
      replace hg := bnd_use hx12 hg
      refine TT_go 2 (pc' := 48) (lv' := [(5, .int x12), (4, .int x7), (0, .ref s), (1, .ref q), (2, .ref m2), (3, .int v3)]) (st' := []) (h2 := (83, I, R0 p)) (by subst hx12; rcases hm2 with rfl | rfl <;> rcases hs with rfl | rfl <;> rcases hq with rfl | rfl <;> rfl) ?_
      refine TT_go 4 (pc' := 55) (lv' := [(5, .int x12), (4, .int x7), (0, .ref s), (1, .ref q), (2, .ref m2), (3, .int v3)]) (st' := [.int x7, .ref (s + 1), .int x7, .ref (s + 1)]) (h2 := (83, I, R0 p)) (by rcases hm2 with rfl | rfl <;> rcases hs with rfl | rfl <;> rcases hq with rfl | rfl <;> rfl) ?_
      by_cases hb13 : inB x7 16 = true
      rotate_left
      · rw [if_neg hb13] at hg; cases hg
      rw [if_pos hb13] at hg
      refine TT_iald (n := 16) rfl (by rcases hm2 with rfl | rfl <;> rcases hs with rfl | rfl <;> rcases hq with rfl | rfl <;> rfl) hb13 ?_
      obtain ⟨x14, hx14⟩ : ∃ x : Int32, x = (I ((s + 1)) (Int32.toNatClampNeg x7)) := ⟨_, rfl⟩
      replace hg := bnd_use hx14 hg
      refine TT_go 0 (pc' := 56) (lv' := [(5, .int x12), (4, .int x7), (0, .ref s), (1, .ref q), (2, .ref m2), (3, .int v3)]) (st' := [.int x14, .int x7, .ref (s + 1)]) (h2 := (83, I, R0 p)) (by subst hx14; rcases hm2 with rfl | rfl <;> rcases hs with rfl | rfl <;> rcases hq with rfl | rfl <;> rfl) ?_
      refine TT_go 2 (pc' := 59) (lv' := [(5, .int x12), (4, .int x7), (0, .ref s), (1, .ref q), (2, .ref m2), (3, .int v3)]) (st' := [.int (x14 - x12), .int x7, .ref (s + 1)]) (h2 := (83, I, R0 p)) (by rcases hm2 with rfl | rfl <;> rcases hs with rfl | rfl <;> rcases hq with rfl | rfl <;> rfl) ?_
      by_cases hb15 : inB x7 16 = true
      rotate_left
      · rw [if_neg hb15] at hg; cases hg
      rw [if_pos hb15] at hg
      refine TT_iast (n := 16) rfl (by rcases hm2 with rfl | rfl <;> rcases hs with rfl | rfl <;> rcases hq with rfl | rfl <;> rfl) hb15 ?_
      obtain ⟨J16, hJ16⟩ : ∃ x : IH, x = (up2 I ((s + 1)) (Int32.toNatClampNeg x7) (x14 - x12)) := ⟨_, rfl⟩
      replace hg := bnd_use hJ16 hg
      refine TT_go 0 (pc' := 60) (lv' := [(5, .int x12), (4, .int x7), (0, .ref s), (1, .ref q), (2, .ref m2), (3, .int v3)]) (st' := []) (h2 := (83, J16, R0 p)) (by subst hJ16; rcases hm2 with rfl | rfl <;> rcases hs with rfl | rfl <;> rcases hq with rfl | rfl <;> rfl) ?_
      refine TT_go 6 (pc' := 69) (lv' := [(5, .int x12), (4, .int x7), (0, .ref s), (1, .ref q), (2, .ref m2), (3, .int v3)]) (st' := [.int (x7 ^^^ 1), .ref (s + 1), .int (x7 ^^^ 1), .ref (s + 1)]) (h2 := (83, J16, R0 p)) (by rcases hm2 with rfl | rfl <;> rcases hs with rfl | rfl <;> rcases hq with rfl | rfl <;> rfl) ?_
      by_cases hb17 : inB (x7 ^^^ 1) 16 = true
      rotate_left
      · rw [if_neg hb17] at hg; cases hg
      rw [if_pos hb17] at hg
      refine TT_iald (n := 16) rfl (by rcases hm2 with rfl | rfl <;> rcases hs with rfl | rfl <;> rcases hq with rfl | rfl <;> rfl) hb17 ?_
      obtain ⟨x18, hx18⟩ : ∃ x : Int32, x = (J16 ((s + 1)) (Int32.toNatClampNeg (x7 ^^^ 1))) := ⟨_, rfl⟩
      replace hg := bnd_use hx18 hg
      refine TT_go 0 (pc' := 70) (lv' := [(5, .int x12), (4, .int x7), (0, .ref s), (1, .ref q), (2, .ref m2), (3, .int v3)]) (st' := [.int x18, .int (x7 ^^^ 1), .ref (s + 1)]) (h2 := (83, J16, R0 p)) (by subst hx18; rcases hm2 with rfl | rfl <;> rcases hs with rfl | rfl <;> rcases hq with rfl | rfl <;> rfl) ?_
      refine TT_go 2 (pc' := 73) (lv' := [(5, .int x12), (4, .int x7), (0, .ref s), (1, .ref q), (2, .ref m2), (3, .int v3)]) (st' := [.int (x18 + x12), .int (x7 ^^^ 1), .ref (s + 1)]) (h2 := (83, J16, R0 p)) (by rcases hm2 with rfl | rfl <;> rcases hs with rfl | rfl <;> rcases hq with rfl | rfl <;> rfl) ?_
      by_cases hb19 : inB (x7 ^^^ 1) 16 = true
      rotate_left
      · rw [if_neg hb19] at hg; cases hg
      rw [if_pos hb19] at hg
      refine TT_iast (n := 16) rfl (by rcases hm2 with rfl | rfl <;> rcases hs with rfl | rfl <;> rcases hq with rfl | rfl <;> rfl) hb19 ?_
      obtain ⟨J20, hJ20⟩ : ∃ x : IH, x = (up2 J16 ((s + 1)) (Int32.toNatClampNeg (x7 ^^^ 1)) (x18 + x12)) := ⟨_, rfl⟩
      replace hg := bnd_use hJ20 hg
      refine TT_go 0 (pc' := 74) (lv' := [(5, .int x12), (4, .int x7), (0, .ref s), (1, .ref q), (2, .ref m2), (3, .int v3)]) (st' := []) (h2 := (83, J20, R0 p)) (by subst hJ20; rcases hm2 with rfl | rfl <;> rcases hs with rfl | rfl <;> rcases hq with rfl | rfl <;> rfl) ?_
      obtain ⟨x21, hx21⟩ : ∃ x : Int32, x = (v3 + 1) := ⟨_, rfl⟩
      replace hg := bnd_use hx21 hg
      refine TT_go 1 (pc' := 77) (lv' := [(3, .int x21), (5, .int x12), (4, .int x7), (0, .ref s), (1, .ref q), (2, .ref m2)]) (st' := []) (h2 := (83, J20, R0 p)) (by subst hx21; rcases hm2 with rfl | rfl <;> rcases hs with rfl | rfl <;> rcases hq with rfl | rfl <;> rfl) ?_
      refine TT_go 1 (pc' := 11) (lv' := [(3, .int x21), (5, .int x12), (4, .int x7), (0, .ref s), (1, .ref q), (2, .ref m2)]) (st' := []) (h2 := (83, J20, R0 p)) (by rcases hm2 with rfl | rfl <;> rcases hs with rfl | rfl <;> rcases hq with rfl | rfl <;> rfl) ?_
      refine TT_sub (lv2 := [(0, .ref s), (1, .ref q), (2, .ref m2), (3, .int x21)]) rfl rfl ⟨rfl, rfl, rfl, rfl, trivial⟩ ?_
      exact ih m2 x21 _ _ hm2 hg
def g_X5_letSandFall (n : Nat) (s : Nat) (q : Nat) (I : IH) : Option (IH) :=
  match g_X5_flowIn n q (I s 2) I with
  | none => none
  | some (m4, J3) =>
    g_X5_letSandFall_11 s q n m4 0 J3
set_option maxRecDepth 20000 in
theorem t_X5_letSandFall {s : Nat} (hs : s = 31 ∨ s = 33) {q : Nat} (hq : q = 5 ∨ q = 18) {p : Nat} {n : Nat} {I : IH} {w : IH} (hg : g_X5_letSandFall n s q I = some w) : TT none mt_X5_letSandFall 0 (lv_args 0 [.ref s, .ref q]) [] (83, I, R0 p) none (83, w, R0 p) := by
  unfold g_X5_letSandFall at hg
  refine TT_go 3 (pc' := 5) (lv' := [(0, .ref s), (1, .ref q)]) (st' := [.int (I s 2), .ref q]) (h2 := (83, I, R0 p)) (by rcases hs with rfl | rfl <;> rcases hq with rfl | rfl <;> rfl) ?_
  cases hq1 : g_X5_flowIn n q (I s 2) I with
  | none => rw [hq1] at hg; cases hg
  | some w2 =>
    obtain ⟨m4, J3⟩ := w2
    have hm4 : m4 = q + 7 ∨ m4 = q + 6 := flowIn_res hq1
    rw [hq1] at hg
    dsimp only at hg
    refine TT_call (me' := mt_X5_flowIn) (as := [.ref q, .int (I s 2)]) (rest := []) (r1 := some (.ref m4)) (h1 := (83, J3, R0 p)) rfl rfl (by rcases hs with rfl | rfl <;> rcases hq with rfl | rfl <;> rfl) (t_X5_flowIn hq hq1) ?_
    refine TT_go 3 (pc' := 11) (lv' := [(3, .int 0), (2, .ref m4), (0, .ref s), (1, .ref q)]) (st' := []) (h2 := (83, J3, R0 p)) (by rcases hm4 with rfl | rfl <;> rcases hs with rfl | rfl <;> rcases hq with rfl | rfl <;> rfl) ?_
    refine TT_sub (lv2 := [(0, .ref s), (1, .ref q), (2, .ref m4), (3, .int 0)]) rfl rfl ⟨rfl, rfl, rfl, rfl, trivial⟩ ?_
    exact t_X5_letSandFall_11 hs hq n m4 0 _ _ hm4 hg
def g_X1_pass_72 (n : Nat) (q : Nat) (k18 : Int32 → Int32 → Int32 → IH → Option (IH)) (k35 : Int32 → Int32 → Int32 → Int32 → IH → Option (IH)) (v3 : Int32) (v4 : Int32) (v5 : Int32) (v6 : Int32) (I : IH) : Option (IH) :=
  bnd (v6 + 1) fun x21 =>
  k35 v3 v4 v5 x21 I
set_option maxRecDepth 20000 in
theorem t_X1_pass_72 {q : Nat} (hq : q = 5 ∨ q = 18) {p : Nat} {n : Nat} {k18 : Int32 → Int32 → Int32 → IH → Option (IH)} {k35 : Int32 → Int32 → Int32 → Int32 → IH → Option (IH)} (hk18 : ∀ (v3 : Int32) (v4 : Int32) (v5 : Int32) (I : IH) (w : IH), k18 v3 v4 v5 I = some w → TT none mt_X1_pass 18 [(0, .ref 47), (1, .ref q), (2, .ref 33), (3, .int v3), (4, .int v4), (5, .int v5)] [] (83, I, R0 p) none (83, w, R0 p)) (hk35 : ∀ (v3 : Int32) (v4 : Int32) (v5 : Int32) (v6 : Int32) (I : IH) (w : IH), k35 v3 v4 v5 v6 I = some w → TT none mt_X1_pass 35 [(0, .ref 47), (1, .ref q), (2, .ref 33), (3, .int v3), (4, .int v4), (5, .int v5), (6, .int v6)] [] (83, I, R0 p) none (83, w, R0 p)) {v3 : Int32} {v4 : Int32} {v5 : Int32} {v6 : Int32} {I : IH} {w : IH} (hg : g_X1_pass_72 n q k18 k35 v3 v4 v5 v6 I = some w) : TT none mt_X1_pass 72 [(0, .ref 47), (1, .ref q), (2, .ref 33), (3, .int v3), (4, .int v4), (5, .int v5), (6, .int v6)] [] (83, I, R0 p) none (83, w, R0 p) := by
  unfold g_X1_pass_72 at hg
  obtain ⟨x21, hx21⟩ : ∃ x : Int32, x = (v6 + 1) := ⟨_, rfl⟩
  replace hg := bnd_use hx21 hg
  refine TT_go 1 (pc' := 75) (lv' := [(6, .int x21), (0, .ref 47), (1, .ref q), (2, .ref 33), (3, .int v3), (4, .int v4), (5, .int v5)]) (st' := []) (h2 := (83, I, R0 p)) (by subst hx21; rcases hq with rfl | rfl <;> rfl) ?_
  refine TT_go 1 (pc' := 35) (lv' := [(6, .int x21), (0, .ref 47), (1, .ref q), (2, .ref 33), (3, .int v3), (4, .int v4), (5, .int v5)]) (st' := []) (h2 := (83, I, R0 p)) (by rcases hq with rfl | rfl <;> rfl) ?_
  refine TT_sub (lv2 := [(0, .ref 47), (1, .ref q), (2, .ref 33), (3, .int v3), (4, .int v4), (5, .int v5), (6, .int x21)]) rfl rfl ⟨rfl, rfl, rfl, rfl, rfl, rfl, rfl, trivial⟩ ?_
  exact hk35 v3 v4 v5 x21 _ _ hg
def g_X1_pass_35 (q : Nat) (k18 : Int32 → Int32 → Int32 → IH → Option (IH)) : Nat → Int32 → Int32 → Int32 → Int32 → IH → Option (IH)
  | 0, _, _, _, _, _ => none
  | n + 1, v3, v4, v5, v6, I =>
    if (I q 0) ≤ v6 then
      match g_X5_letSandFall n 33 q I with
      | none => none
      | some J11 =>
        bnd (v5 + 1) fun x12 =>
        k18 v3 v4 x12 J11
    else
      if (((I 47 2) >>> (v6 &&& 31)) &&& 1) = 0 then
        match g_X1_draw n v3 v6 v5 I with
        | none => none
        | some (r17, J16) =>
          match g_X1_befall n q v6 r17 J16 with
          | none => none
          | some J20 =>
            g_X1_pass_72 n q k18 (g_X1_pass_35 q k18 n) v3 v4 v5 v6 J20
      else
        g_X1_pass_72 n q k18 (g_X1_pass_35 q k18 n) v3 v4 v5 v6 I
set_option maxRecDepth 20000 in
theorem t_X1_pass_35 {q : Nat} (hq : q = 5 ∨ q = 18) {p : Nat} {k18 : Int32 → Int32 → Int32 → IH → Option (IH)} (hk18 : ∀ (v3 : Int32) (v4 : Int32) (v5 : Int32) (I : IH) (w : IH), k18 v3 v4 v5 I = some w → TT none mt_X1_pass 18 [(0, .ref 47), (1, .ref q), (2, .ref 33), (3, .int v3), (4, .int v4), (5, .int v5)] [] (83, I, R0 p) none (83, w, R0 p)) : ∀ (n : Nat) (v3 : Int32) (v4 : Int32) (v5 : Int32) (v6 : Int32) (I : IH) (w : IH), g_X1_pass_35 q k18 n v3 v4 v5 v6 I = some w → TT none mt_X1_pass 35 [(0, .ref 47), (1, .ref q), (2, .ref 33), (3, .int v3), (4, .int v4), (5, .int v5), (6, .int v6)] [] (83, I, R0 p) none (83, w, R0 p) := by
  intro n
  induction n with
  | zero => intro v3 v4 v5 v6 I w hg; cases hg
  | succ n ih =>
    intro v3 v4 v5 v6 I w hg
    unfold g_X1_pass_35 at hg
    refine TT_go 3 (pc' := 41) (lv' := [(0, .ref 47), (1, .ref q), (2, .ref 33), (3, .int v3), (4, .int v4), (5, .int v5), (6, .int v6)]) (st' := [.int (I q 0), .int v6]) (h2 := (83, I, R0 p)) (by rcases hq with rfl | rfl <;> rfl) ?_
    by_cases hc8 : (I q 0) ≤ v6
    · rw [if_pos hc8] at hg
      refine TT_ige_t (t := 78) rfl rfl hc8 ?_
      refine TT_go 2 (pc' := 80) (lv' := [(0, .ref 47), (1, .ref q), (2, .ref 33), (3, .int v3), (4, .int v4), (5, .int v5), (6, .int v6)]) (st' := [.ref q, .ref 33]) (h2 := (83, I, R0 p)) (by rcases hq with rfl | rfl <;> rfl) ?_
      cases hq9 : g_X5_letSandFall n 33 q I with
      | none => rw [hq9] at hg; cases hg
      | some w10 =>
        obtain ⟨J11, hJ11⟩ : ∃ J, J = w10 := ⟨_, rfl⟩
        rw [← hJ11] at hq9
        rw [hq9] at hg
        dsimp only at hg
        refine TT_call (me' := mt_X5_letSandFall) (as := [.ref 33, .ref q]) (rest := []) (r1 := none) (h1 := (83, J11, R0 p)) rfl rfl (by rcases hq with rfl | rfl <;> rfl) (t_X5_letSandFall (Or.inr rfl) hq hq9) ?_
        obtain ⟨x12, hx12⟩ : ∃ x : Int32, x = (v5 + 1) := ⟨_, rfl⟩
        replace hg := bnd_use hx12 hg
        refine TT_go 1 (pc' := 86) (lv' := [(5, .int x12), (0, .ref 47), (1, .ref q), (2, .ref 33), (3, .int v3), (4, .int v4), (6, .int v6)]) (st' := []) (h2 := (83, J11, R0 p)) (by subst hx12; rcases hq with rfl | rfl <;> rfl) ?_
        refine TT_go 1 (pc' := 18) (lv' := [(5, .int x12), (0, .ref 47), (1, .ref q), (2, .ref 33), (3, .int v3), (4, .int v4), (6, .int v6)]) (st' := []) (h2 := (83, J11, R0 p)) (by rcases hq with rfl | rfl <;> rfl) ?_
        refine TT_sub (lv2 := [(0, .ref 47), (1, .ref q), (2, .ref 33), (3, .int v3), (4, .int v4), (5, .int x12)]) rfl rfl ⟨rfl, rfl, rfl, rfl, rfl, rfl, trivial⟩ ?_
        exact hk18 v3 v4 x12 _ _ hg
    · rw [if_neg hc8] at hg
      refine TT_ige_f (t := 78) rfl rfl hc8 ?_
      refine TT_go 6 (pc' := 53) (lv' := [(0, .ref 47), (1, .ref q), (2, .ref 33), (3, .int v3), (4, .int v4), (5, .int v5), (6, .int v6)]) (st' := [.int (((I 47 2) >>> (v6 &&& 31)) &&& 1)]) (h2 := (83, I, R0 p)) (by rcases hq with rfl | rfl <;> rfl) ?_
      by_cases hc13 : (((I 47 2) >>> (v6 &&& 31)) &&& 1) = 0
      · rw [if_pos hc13] at hg
        refine TT_zne_f (t := 72) rfl rfl hc13 ?_
        refine TT_go 7 (pc' := 66) (lv' := [(0, .ref 47), (1, .ref q), (2, .ref 33), (3, .int v3), (4, .int v4), (5, .int v5), (6, .int v6)]) (st' := [.int v5, .int v6, .int v3, .int v6, .ref 33, .ref q, .ref 47]) (h2 := (83, I, R0 p)) (by rcases hq with rfl | rfl <;> rfl) ?_
        cases hq14 : g_X1_draw n v3 v6 v5 I with
        | none => rw [hq14] at hg; cases hg
        | some w15 =>
          obtain ⟨r17, J16⟩ := w15
          rw [hq14] at hg
          dsimp only at hg
          refine TT_call (me' := mt_X1_draw) (as := [.int v3, .int v6, .int v5]) (rest := [.int v6, .ref 33, .ref q, .ref 47]) (r1 := some (.int r17)) (h1 := (83, J16, R0 p)) rfl rfl (by rcases hq with rfl | rfl <;> rfl) (t_X1_draw hq14) ?_
          refine TT_go 0 (pc' := 69) (lv' := [(0, .ref 47), (1, .ref q), (2, .ref 33), (3, .int v3), (4, .int v4), (5, .int v5), (6, .int v6)]) (st' := [.int r17, .int v6, .ref 33, .ref q, .ref 47]) (h2 := (83, J16, R0 p)) (by rcases hq with rfl | rfl <;> rfl) ?_
          cases hq18 : g_X1_befall n q v6 r17 J16 with
          | none => rw [hq18] at hg; cases hg
          | some w19 =>
            obtain ⟨J20, hJ20⟩ : ∃ J, J = w19 := ⟨_, rfl⟩
            rw [← hJ20] at hq18
            rw [hq18] at hg
            dsimp only at hg
            refine TT_call (me' := mt_X1_befall) (as := [.ref 47, .ref q, .ref 33, .int v6, .int r17]) (rest := []) (r1 := none) (h1 := (83, J20, R0 p)) rfl rfl (by rcases hq with rfl | rfl <;> rfl) (t_X1_befall hq hq18) ?_
            refine TT_go 0 (pc' := 72) (lv' := [(0, .ref 47), (1, .ref q), (2, .ref 33), (3, .int v3), (4, .int v4), (5, .int v5), (6, .int v6)]) (st' := []) (h2 := (83, J20, R0 p)) (by rcases hq with rfl | rfl <;> rfl) ?_
            refine TT_sub (lv2 := [(0, .ref 47), (1, .ref q), (2, .ref 33), (3, .int v3), (4, .int v4), (5, .int v5), (6, .int v6)]) rfl rfl ⟨rfl, rfl, rfl, rfl, rfl, rfl, rfl, trivial⟩ ?_
            exact t_X1_pass_72 hq hk18 ih hg
      · rw [if_neg hc13] at hg
        refine TT_zne_t (t := 72) rfl rfl hc13 ?_
        refine TT_go 0 (pc' := 72) (lv' := [(0, .ref 47), (1, .ref q), (2, .ref 33), (3, .int v3), (4, .int v4), (5, .int v5), (6, .int v6)]) (st' := []) (h2 := (83, I, R0 p)) (by rcases hq with rfl | rfl <;> rfl) ?_
        refine TT_sub (lv2 := [(0, .ref 47), (1, .ref q), (2, .ref 33), (3, .int v3), (4, .int v4), (5, .int v5), (6, .int v6)]) rfl rfl ⟨rfl, rfl, rfl, rfl, rfl, rfl, rfl, trivial⟩ ?_
        exact t_X1_pass_72 hq hk18 ih hg
def g_X1_pass_18 (q : Nat) : Nat → Int32 → Int32 → Int32 → IH → Option (IH)
  | 0, _, _, _, _ => none
  | n + 1, v3, v4, v5, I =>
    if v4 ≤ v5 then
      some I
    else
      match g_X5_letClerksTurn n 33 q (-1) 0 I with
      | none => none
      | some J7 =>
        g_X1_pass_35 q (g_X1_pass_18 q n) n v3 v4 v5 0 J7
set_option maxRecDepth 20000 in
theorem t_X1_pass_18 {q : Nat} (hq : q = 5 ∨ q = 18) {p : Nat} : ∀ (n : Nat) (v3 : Int32) (v4 : Int32) (v5 : Int32) (I : IH) (w : IH), g_X1_pass_18 q n v3 v4 v5 I = some w → TT none mt_X1_pass 18 [(0, .ref 47), (1, .ref q), (2, .ref 33), (3, .int v3), (4, .int v4), (5, .int v5)] [] (83, I, R0 p) none (83, w, R0 p) := by
  intro n
  induction n with
  | zero => intro v3 v4 v5 I w hg; cases hg
  | succ n ih =>
    intro v3 v4 v5 I w hg
    unfold g_X1_pass_18 at hg
    refine TT_go 2 (pc' := 22) (lv' := [(0, .ref 47), (1, .ref q), (2, .ref 33), (3, .int v3), (4, .int v4), (5, .int v5)]) (st' := [.int v4, .int v5]) (h2 := (83, I, R0 p)) (by rcases hq with rfl | rfl <;> rfl) ?_
    by_cases hc4 : v4 ≤ v5
    · rw [if_pos hc4] at hg
      refine TT_ige_t (t := 89) rfl rfl hc4 ?_
      refine TT_go 0 (pc' := 89) (lv' := [(0, .ref 47), (1, .ref q), (2, .ref 33), (3, .int v3), (4, .int v4), (5, .int v5)]) (st' := []) (h2 := (83, I, R0 p)) (by rcases hq with rfl | rfl <;> rfl) ?_
      have hg := Option.some.inj hg
      subst hg
      exact TT_ret rfl rfl
    · rw [if_neg hc4] at hg
      refine TT_ige_f (t := 89) rfl rfl hc4 ?_
      refine TT_go 4 (pc' := 29) (lv' := [(0, .ref 47), (1, .ref q), (2, .ref 33), (3, .int v3), (4, .int v4), (5, .int v5)]) (st' := [.int 0, .int (-1), .ref q, .ref 33]) (h2 := (83, I, R0 p)) (by rcases hq with rfl | rfl <;> rfl) ?_
      cases hq5 : g_X5_letClerksTurn n 33 q (-1) 0 I with
      | none => rw [hq5] at hg; cases hg
      | some w6 =>
        obtain ⟨J7, hJ7⟩ : ∃ J, J = w6 := ⟨_, rfl⟩
        rw [← hJ7] at hq5
        rw [hq5] at hg
        dsimp only at hg
        refine TT_call (me' := mt_X5_letClerksTurn) (as := [.ref 33, .ref q, .int (-1), .int 0]) (rest := []) (r1 := none) (h1 := (83, J7, R0 p)) rfl rfl (by rcases hq with rfl | rfl <;> rfl) (t_X5_letClerksTurn (Or.inr rfl) hq hq5) ?_
        refine TT_go 2 (pc' := 35) (lv' := [(6, .int 0), (0, .ref 47), (1, .ref q), (2, .ref 33), (3, .int v3), (4, .int v4), (5, .int v5)]) (st' := []) (h2 := (83, J7, R0 p)) (by rcases hq with rfl | rfl <;> rfl) ?_
        refine TT_sub (lv2 := [(0, .ref 47), (1, .ref q), (2, .ref 33), (3, .int v3), (4, .int v4), (5, .int v5), (6, .int 0)]) rfl rfl ⟨rfl, rfl, rfl, rfl, rfl, rfl, rfl, trivial⟩ ?_
        exact t_X1_pass_35 hq ih n v3 v4 v5 0 _ _ hg
def g_X1_pass (n : Nat) (q : Nat) (a2 : Int32) (a3 : Int32) (I : IH) : Option (IH) :=
  bnd (up2 I 47 0 0) fun J1 =>
  bnd (up2 J1 47 1 0) fun J2 =>
  bnd (up2 J2 47 2 0) fun J3 =>
  g_X1_pass_18 q n a2 a3 0 J3
set_option maxRecDepth 20000 in
theorem t_X1_pass {q : Nat} (hq : q = 5 ∨ q = 18) {p : Nat} {n : Nat} {a2 : Int32} {a3 : Int32} {I : IH} {w : IH} (hg : g_X1_pass n q a2 a3 I = some w) : TT none mt_X1_pass 0 (lv_args 0 [.ref 47, .ref q, .ref 33, .int a2, .int a3]) [] (83, I, R0 p) none (83, w, R0 p) := by
  unfold g_X1_pass at hg
  obtain ⟨J1, hJ1⟩ : ∃ x : IH, x = (up2 I 47 0 0) := ⟨_, rfl⟩
  replace hg := bnd_use hJ1 hg
  refine TT_go 3 (pc' := 5) (lv' := [(0, .ref 47), (1, .ref q), (2, .ref 33), (3, .int a2), (4, .int a3)]) (st' := []) (h2 := (83, J1, R0 p)) (by subst hJ1; rcases hq with rfl | rfl <;> rfl) ?_
  obtain ⟨J2, hJ2⟩ : ∃ x : IH, x = (up2 J1 47 1 0) := ⟨_, rfl⟩
  replace hg := bnd_use hJ2 hg
  refine TT_go 3 (pc' := 10) (lv' := [(0, .ref 47), (1, .ref q), (2, .ref 33), (3, .int a2), (4, .int a3)]) (st' := []) (h2 := (83, J2, R0 p)) (by subst hJ2; rcases hq with rfl | rfl <;> rfl) ?_
  obtain ⟨J3, hJ3⟩ : ∃ x : IH, x = (up2 J2 47 2 0) := ⟨_, rfl⟩
  replace hg := bnd_use hJ3 hg
  refine TT_go 3 (pc' := 15) (lv' := [(0, .ref 47), (1, .ref q), (2, .ref 33), (3, .int a2), (4, .int a3)]) (st' := []) (h2 := (83, J3, R0 p)) (by subst hJ3; rcases hq with rfl | rfl <;> rfl) ?_
  refine TT_go 2 (pc' := 18) (lv' := [(5, .int 0), (0, .ref 47), (1, .ref q), (2, .ref 33), (3, .int a2), (4, .int a3)]) (st' := []) (h2 := (83, J3, R0 p)) (by rcases hq with rfl | rfl <;> rfl) ?_
  refine TT_sub (lv2 := [(0, .ref 47), (1, .ref q), (2, .ref 33), (3, .int a2), (4, .int a3), (5, .int 0)]) rfl rfl ⟨rfl, rfl, rfl, rfl, rfl, rfl, trivial⟩ ?_
  exact t_X1_pass_18 hq n a2 a3 0 _ _ hg
def g_X2_clear (n : Nat) (q : Nat) (I : IH) : Option (IH) :=
  bnd (up2 I q 0 0) fun J1 =>
  bnd (up2 J1 q 8 0) fun J2 =>
  bnd (up2 J2 q 11 0) fun J3 =>
  bnd (up2 J3 q 15 0) fun J4 =>
  bnd (up2 J4 q 16 0) fun J5 =>
  some J5
set_option maxRecDepth 20000 in
theorem t_X2_clear {q : Nat} (hq : q = 5 ∨ q = 18) {p : Nat} {n : Nat} {I : IH} {w : IH} (hg : g_X2_clear n q I = some w) : TT none mt_X2_clear 0 (lv_args 0 [.ref q]) [] (83, I, R0 p) none (83, w, R0 p) := by
  unfold g_X2_clear at hg
  obtain ⟨J1, hJ1⟩ : ∃ x : IH, x = (up2 I q 0 0) := ⟨_, rfl⟩
  replace hg := bnd_use hJ1 hg
  refine TT_go 3 (pc' := 5) (lv' := [(0, .ref q)]) (st' := []) (h2 := (83, J1, R0 p)) (by subst hJ1; rcases hq with rfl | rfl <;> rfl) ?_
  obtain ⟨J2, hJ2⟩ : ∃ x : IH, x = (up2 J1 q 8 0) := ⟨_, rfl⟩
  replace hg := bnd_use hJ2 hg
  refine TT_go 3 (pc' := 10) (lv' := [(0, .ref q)]) (st' := []) (h2 := (83, J2, R0 p)) (by subst hJ2; rcases hq with rfl | rfl <;> rfl) ?_
  obtain ⟨J3, hJ3⟩ : ∃ x : IH, x = (up2 J2 q 11 0) := ⟨_, rfl⟩
  replace hg := bnd_use hJ3 hg
  refine TT_go 3 (pc' := 15) (lv' := [(0, .ref q)]) (st' := []) (h2 := (83, J3, R0 p)) (by subst hJ3; rcases hq with rfl | rfl <;> rfl) ?_
  obtain ⟨J4, hJ4⟩ : ∃ x : IH, x = (up2 J3 q 15 0) := ⟨_, rfl⟩
  replace hg := bnd_use hJ4 hg
  refine TT_go 3 (pc' := 20) (lv' := [(0, .ref q)]) (st' := []) (h2 := (83, J4, R0 p)) (by subst hJ4; rcases hq with rfl | rfl <;> rfl) ?_
  obtain ⟨J5, hJ5⟩ : ∃ x : IH, x = (up2 J4 q 16 0) := ⟨_, rfl⟩
  replace hg := bnd_use hJ5 hg
  refine TT_go 3 (pc' := 25) (lv' := [(0, .ref q)]) (st' := []) (h2 := (83, J5, R0 p)) (by subst hJ5; rcases hq with rfl | rfl <;> rfl) ?_
  have hg := Option.some.inj hg
  subst hg
  exact TT_ret rfl rfl
def g_X8_within (n : Nat) (a0 : Int32) (a1 : Int32) (a2 : Int32) (I : IH) : Option (Int32 × IH) :=
  if a0 < a1 then
    some (0, I)
  else
    if a2 < a0 then
      some (0, I)
    else
      some (1, I)
set_option maxRecDepth 20000 in
theorem t_X8_within {p : Nat} {n : Nat} {a0 : Int32} {a1 : Int32} {a2 : Int32} {I : IH} {w : Int32 × IH} (hg : g_X8_within n a0 a1 a2 I = some w) : TT none mt_X8_within 0 (lv_args 0 [.int a0, .int a1, .int a2]) [] (83, I, R0 p) (some (.int w.1)) (83, w.2, R0 p) := by
  unfold g_X8_within at hg
  refine TT_go 2 (pc' := 2) (lv' := [(0, .int a0), (1, .int a1), (2, .int a2)]) (st' := [.int a1, .int a0]) (h2 := (83, I, R0 p)) (by rfl) ?_
  by_cases hc1 : a0 < a1
  · rw [if_pos hc1] at hg
    refine TT_ilt_t (t := 14) rfl rfl hc1 ?_
    refine TT_go 1 (pc' := 15) (lv' := [(0, .int a0), (1, .int a1), (2, .int a2)]) (st' := [.int 0]) (h2 := (83, I, R0 p)) (by rfl) ?_
    have hg := Option.some.inj hg
    subst hg
    exact TT_ret rfl rfl
  · rw [if_neg hc1] at hg
    refine TT_ilt_f (t := 14) rfl rfl hc1 ?_
    refine TT_go 2 (pc' := 7) (lv' := [(0, .int a0), (1, .int a1), (2, .int a2)]) (st' := [.int a2, .int a0]) (h2 := (83, I, R0 p)) (by rfl) ?_
    by_cases hc2 : a2 < a0
    · rw [if_pos hc2] at hg
      refine TT_igt_t (t := 14) rfl rfl hc2 ?_
      refine TT_go 1 (pc' := 15) (lv' := [(0, .int a0), (1, .int a1), (2, .int a2)]) (st' := [.int 0]) (h2 := (83, I, R0 p)) (by rfl) ?_
      have hg := Option.some.inj hg
      subst hg
      exact TT_ret rfl rfl
    · rw [if_neg hc2] at hg
      refine TT_igt_f (t := 14) rfl rfl hc2 ?_
      refine TT_go 2 (pc' := 15) (lv' := [(0, .int a0), (1, .int a1), (2, .int a2)]) (st' := [.int 1]) (h2 := (83, I, R0 p)) (by rfl) ?_
      have hg := Option.some.inj hg
      subst hg
      exact TT_ret rfl rfl
def g_X2_isTold (n : Nat) (q : Nat) (a0 : Int32) (I : IH) : Option (Int32 × IH) :=
  match g_X8_within n a0 0 ((I q 0) - 1) I with
  | none => none
  | some (r4, J3) =>
    if r4 = 0 ∨ r4 = 1 then some (r4, J3) else none
set_option maxRecDepth 20000 in
theorem t_X2_isTold {q : Nat} (hq : q = 5 ∨ q = 18) {p : Nat} {n : Nat} {a0 : Int32} {I : IH} {w : Int32 × IH} (hg : g_X2_isTold n q a0 I = some w) : TT none mt_X2_isTold 0 (lv_args 0 [.ref q, .int a0]) [] (83, I, R0 p) (some (.int w.1)) (83, w.2, R0 p) := by
  unfold g_X2_isTold at hg
  refine TT_go 6 (pc' := 8) (lv' := [(0, .ref q), (1, .int a0)]) (st' := [.int ((I q 0) - 1), .int 0, .int a0]) (h2 := (83, I, R0 p)) (by rcases hq with rfl | rfl <;> rfl) ?_
  cases hq1 : g_X8_within n a0 0 ((I q 0) - 1) I with
  | none => rw [hq1] at hg; cases hg
  | some w2 =>
    obtain ⟨r4, J3⟩ := w2
    rw [hq1] at hg
    dsimp only at hg
    refine TT_call (me' := mt_X8_within) (as := [.int a0, .int 0, .int ((I q 0) - 1)]) (rest := []) (r1 := some (.int r4)) (h1 := (83, J3, R0 p)) rfl rfl (by rcases hq with rfl | rfl <;> rfl) (t_X8_within hq1) ?_
    refine TT_go 0 (pc' := 11) (lv' := [(0, .ref q), (1, .int a0)]) (st' := [.int r4]) (h2 := (83, J3, R0 p)) (by rcases hq with rfl | rfl <;> rfl) ?_
    by_cases hc5 : r4 = 0 ∨ r4 = 1
    rotate_left
    · rw [if_neg hc5] at hg; cases hg
    rw [if_pos hc5] at hg
    have hg := Option.some.inj hg
    subst hg
    exact TT_ret rfl (if_pos hc5)
def g_X8_isHand (n : Nat) (a0 : Int32) (I : IH) : Option (Int32 × IH) :=
  match g_X8_within n a0 0 5 I with
  | none => none
  | some (r4, J3) =>
    if r4 = 0 ∨ r4 = 1 then some (r4, J3) else none
set_option maxRecDepth 20000 in
theorem t_X8_isHand {p : Nat} {n : Nat} {a0 : Int32} {I : IH} {w : Int32 × IH} (hg : g_X8_isHand n a0 I = some w) : TT none mt_X8_isHand 0 (lv_args 0 [.int a0]) [] (83, I, R0 p) (some (.int w.1)) (83, w.2, R0 p) := by
  unfold g_X8_isHand at hg
  refine TT_go 3 (pc' := 3) (lv' := [(0, .int a0)]) (st' := [.int 5, .int 0, .int a0]) (h2 := (83, I, R0 p)) (by rfl) ?_
  cases hq1 : g_X8_within n a0 0 5 I with
  | none => rw [hq1] at hg; cases hg
  | some w2 =>
    obtain ⟨r4, J3⟩ := w2
    rw [hq1] at hg
    dsimp only at hg
    refine TT_call (me' := mt_X8_within) (as := [.int a0, .int 0, .int 5]) (rest := []) (r1 := some (.int r4)) (h1 := (83, J3, R0 p)) rfl rfl (by rfl) (t_X8_within hq1) ?_
    refine TT_go 0 (pc' := 6) (lv' := [(0, .int a0)]) (st' := [.int r4]) (h2 := (83, J3, R0 p)) (by rfl) ?_
    by_cases hc5 : r4 = 0 ∨ r4 = 1
    rotate_left
    · rw [if_neg hc5] at hg; cases hg
    rw [if_pos hc5] at hg
    have hg := Option.some.inj hg
    subst hg
    exact TT_ret rfl (if_pos hc5)
def g_X2_addGlass_189 (n : Nat) (q : Nat) (v7 : Int32) (t0 : Int32) (t1 : Int32) (I : IH) : Option (Int32 × IH) :=
  if inB t1 8 = true then
    bnd (up2 I ((q + 7)) (Int32.toNatClampNeg t1) t0) fun J52 =>
    if inB v7 8 = true then
      bnd (up2 J52 ((q + 8)) (Int32.toNatClampNeg v7) 0) fun J54 =>
      bnd (up2 J54 q 0 ((J54 q 0) + 1)) fun J55 =>
      some (1, J55)
    else none
  else none
set_option maxRecDepth 20000 in
theorem t_X2_addGlass_189 {q : Nat} (hq : q = 5 ∨ q = 18) {p : Nat} {n : Nat} {v7 : Int32} {t0 : Int32} {t1 : Int32} {I : IH} {w : Int32 × IH} (hg : g_X2_addGlass_189 n q v7 t0 t1 I = some w) : TT none mt_X2_addGlass 189 [(0, .ref q), (7, .int v7)] [.int t0, .int t1, .ref (q + 7)] (83, I, R0 p) (some (.int w.1)) (83, w.2, R0 p) := by
  unfold g_X2_addGlass_189 at hg
  by_cases hb51 : inB t1 8 = true
  rotate_left
  · rw [if_neg hb51] at hg; cases hg
  rw [if_pos hb51] at hg
  refine TT_iast (n := 8) rfl (by rcases hq with rfl | rfl <;> rfl) hb51 ?_
  obtain ⟨J52, hJ52⟩ : ∃ x : IH, x = (up2 I ((q + 7)) (Int32.toNatClampNeg t1) t0) := ⟨_, rfl⟩
  replace hg := bnd_use hJ52 hg
  refine TT_go 0 (pc' := 190) (lv' := [(0, .ref q), (7, .int v7)]) (st' := []) (h2 := (83, J52, R0 p)) (by subst hJ52; rcases hq with rfl | rfl <;> rfl) ?_
  refine TT_go 4 (pc' := 197) (lv' := [(0, .ref q), (7, .int v7)]) (st' := [.int 0, .int v7, .ref (q + 8)]) (h2 := (83, J52, R0 p)) (by rcases hq with rfl | rfl <;> rfl) ?_
  by_cases hb53 : inB v7 8 = true
  rotate_left
  · rw [if_neg hb53] at hg; cases hg
  rw [if_pos hb53] at hg
  refine TT_iast (n := 8) rfl (by rcases hq with rfl | rfl <;> rfl) hb53 ?_
  obtain ⟨J54, hJ54⟩ : ∃ x : IH, x = (up2 J52 ((q + 8)) (Int32.toNatClampNeg v7) 0) := ⟨_, rfl⟩
  replace hg := bnd_use hJ54 hg
  refine TT_go 0 (pc' := 198) (lv' := [(0, .ref q), (7, .int v7)]) (st' := []) (h2 := (83, J54, R0 p)) (by subst hJ54; rcases hq with rfl | rfl <;> rfl) ?_
  obtain ⟨J55, hJ55⟩ : ∃ x : IH, x = (up2 J54 q 0 ((J54 q 0) + 1)) := ⟨_, rfl⟩
  replace hg := bnd_use hJ55 hg
  refine TT_go 6 (pc' := 208) (lv' := [(0, .ref q), (7, .int v7)]) (st' := []) (h2 := (83, J55, R0 p)) (by subst hJ55; rcases hq with rfl | rfl <;> rfl) ?_
  refine TT_go 1 (pc' := 209) (lv' := [(0, .ref q), (7, .int v7)]) (st' := [.int 1]) (h2 := (83, J55, R0 p)) (by rcases hq with rfl | rfl <;> rfl) ?_
  have hg := Option.some.inj hg
  subst hg
  exact TT_ret rfl rfl
def g_X2_addGlass_183 (n : Nat) (q : Nat) (v7 : Int32) (t0 : Int32) (I : IH) : Option (Int32 × IH) :=
  g_X2_addGlass_189 n q v7 0 t0 I
set_option maxRecDepth 20000 in
theorem t_X2_addGlass_183 {q : Nat} (hq : q = 5 ∨ q = 18) {p : Nat} {n : Nat} {v7 : Int32} {t0 : Int32} {I : IH} {w : Int32 × IH} (hg : g_X2_addGlass_183 n q v7 t0 I = some w) : TT none mt_X2_addGlass 183 [(0, .ref q), (7, .int v7)] [.int t0, .ref (q + 7)] (83, I, R0 p) (some (.int w.1)) (83, w.2, R0 p) := by
  unfold g_X2_addGlass_183 at hg
  refine TT_go 2 (pc' := 189) (lv' := [(0, .ref q), (7, .int v7)]) (st' := [.int 0, .int t0, .ref (q + 7)]) (h2 := (83, I, R0 p)) (by rcases hq with rfl | rfl <;> rfl) ?_
  refine TT_sub (lv2 := [(0, .ref q), (7, .int v7)]) rfl rfl ⟨rfl, rfl, trivial⟩ ?_
  exact t_X2_addGlass_189 hq hg
def g_X2_addGlass_166 (n : Nat) (q : Nat) (v1 : Int32) (v4 : Int32) (v7 : Int32) (t0 : Int32) (t1 : Int32) (I : IH) : Option (Int32 × IH) :=
  if inB t1 8 = true then
    bnd (up2 I ((q + 6)) (Int32.toNatClampNeg t1) t0) fun J49 =>
    if v1 = 1 then
      g_X2_addGlass_183 n q v7 v7 J49
    else
      if v1 = 3 then
        g_X2_addGlass_183 n q v7 v7 J49
      else
        g_X2_addGlass_189 n q v7 v4 v7 J49
  else none
set_option maxRecDepth 20000 in
theorem t_X2_addGlass_166 {q : Nat} (hq : q = 5 ∨ q = 18) {p : Nat} {n : Nat} {v1 : Int32} {v4 : Int32} {v7 : Int32} {t0 : Int32} {t1 : Int32} {I : IH} {w : Int32 × IH} (hg : g_X2_addGlass_166 n q v1 v4 v7 t0 t1 I = some w) : TT none mt_X2_addGlass 166 [(0, .ref q), (1, .int v1), (4, .int v4), (7, .int v7)] [.int t0, .int t1, .ref (q + 6)] (83, I, R0 p) (some (.int w.1)) (83, w.2, R0 p) := by
  unfold g_X2_addGlass_166 at hg
  by_cases hb48 : inB t1 8 = true
  rotate_left
  · rw [if_neg hb48] at hg; cases hg
  rw [if_pos hb48] at hg
  refine TT_iast (n := 8) rfl (by rcases hq with rfl | rfl <;> rfl) hb48 ?_
  obtain ⟨J49, hJ49⟩ : ∃ x : IH, x = (up2 I ((q + 6)) (Int32.toNatClampNeg t1) t0) := ⟨_, rfl⟩
  replace hg := bnd_use hJ49 hg
  refine TT_go 0 (pc' := 167) (lv' := [(0, .ref q), (1, .int v1), (4, .int v4), (7, .int v7)]) (st' := []) (h2 := (83, J49, R0 p)) (by subst hJ49; rcases hq with rfl | rfl <;> rfl) ?_
  refine TT_go 5 (pc' := 175) (lv' := [(0, .ref q), (1, .int v1), (4, .int v4), (7, .int v7)]) (st' := [.int 1, .int v1, .int v7, .ref (q + 7)]) (h2 := (83, J49, R0 p)) (by rcases hq with rfl | rfl <;> rfl) ?_
  by_cases hc50 : v1 = 1
  · rw [if_pos hc50] at hg
    refine TT_ieq_t (t := 183) rfl rfl hc50 ?_
    refine TT_go 0 (pc' := 183) (lv' := [(0, .ref q), (1, .int v1), (4, .int v4), (7, .int v7)]) (st' := [.int v7, .ref (q + 7)]) (h2 := (83, J49, R0 p)) (by rcases hq with rfl | rfl <;> rfl) ?_
    refine TT_sub (lv2 := [(0, .ref q), (7, .int v7)]) rfl rfl ⟨rfl, rfl, trivial⟩ ?_
    exact t_X2_addGlass_183 hq hg
  · rw [if_neg hc50] at hg
    refine TT_ieq_f (t := 183) rfl rfl hc50 ?_
    refine TT_go 2 (pc' := 180) (lv' := [(0, .ref q), (1, .int v1), (4, .int v4), (7, .int v7)]) (st' := [.int 3, .int v1, .int v7, .ref (q + 7)]) (h2 := (83, J49, R0 p)) (by rcases hq with rfl | rfl <;> rfl) ?_
    by_cases hc56 : v1 = 3
    · rw [if_pos hc56] at hg
      refine TT_ine_f (t := 187) rfl rfl hc56 ?_
      refine TT_go 0 (pc' := 183) (lv' := [(0, .ref q), (1, .int v1), (4, .int v4), (7, .int v7)]) (st' := [.int v7, .ref (q + 7)]) (h2 := (83, J49, R0 p)) (by rcases hq with rfl | rfl <;> rfl) ?_
      refine TT_sub (lv2 := [(0, .ref q), (7, .int v7)]) rfl rfl ⟨rfl, rfl, trivial⟩ ?_
      exact t_X2_addGlass_183 hq hg
    · rw [if_neg hc56] at hg
      refine TT_ine_t (t := 187) rfl rfl hc56 ?_
      refine TT_go 1 (pc' := 189) (lv' := [(0, .ref q), (1, .int v1), (4, .int v4), (7, .int v7)]) (st' := [.int v4, .int v7, .ref (q + 7)]) (h2 := (83, J49, R0 p)) (by rcases hq with rfl | rfl <;> rfl) ?_
      refine TT_sub (lv2 := [(0, .ref q), (7, .int v7)]) rfl rfl ⟨rfl, rfl, trivial⟩ ?_
      exact t_X2_addGlass_189 hq hg
def g_X2_addGlass (n : Nat) (q : Nat) (a0 : Int32) (a1 : Int32) (a2 : Int32) (a3 : Int32) (a4 : Int32) (a5 : Int32) (I : IH) : Option (Int32 × IH) :=
  if 8 ≤ (I q 0) then
    some (0, I)
  else
    match g_X8_within n a0 0 3 I with
    | none => none
    | some (r5, J4) =>
      if r5 = 0 then
        some (0, J4)
      else
        match g_X8_isHand n a1 J4 with
        | none => none
        | some (r10, J9) =>
          if r10 = 0 then
            some (0, J9)
          else
            match g_X8_isHand n a2 J9 with
            | none => none
            | some (r15, J14) =>
              if r15 = 0 then
                some (0, J14)
              else
                match g_X8_within n a3 1 60 J14 with
                | none => none
                | some (r20, J19) =>
                  if r20 = 0 then
                    some (0, J19)
                  else
                    match g_X8_within n a4 0 999 J19 with
                    | none => none
                    | some (r25, J24) =>
                      if r25 = 0 then
                        some (0, J24)
                      else
                        match g_X8_within n a5 0 999 J24 with
                        | none => none
                        | some (r30, J29) =>
                          if r30 = 0 then
                            some (0, J29)
                          else
                            bnd ((J29 q 0)) fun x32 =>
                            if inB x32 8 = true then
                              bnd (up2 J29 ((q + 1)) (Int32.toNatClampNeg x32) a0) fun J34 =>
                              if inB x32 8 = true then
                                bnd (up2 J34 ((q + 2)) (Int32.toNatClampNeg x32) a3) fun J36 =>
                                if inB x32 8 = true then
                                  bnd (up2 J36 ((q + 3)) (Int32.toNatClampNeg x32) a1) fun J38 =>
                                  if inB (2 * x32) 16 = true then
                                    bnd (up2 J38 ((q + 4)) (Int32.toNatClampNeg (2 * x32)) a1) fun J40 =>
                                    if inB ((2 * x32) + 1) 16 = true then
                                      bnd (up2 J40 ((q + 4)) (Int32.toNatClampNeg ((2 * x32) + 1)) a2) fun J42 =>
                                      if inB (2 * x32) 16 = true then
                                        bnd (up2 J42 ((q + 5)) (Int32.toNatClampNeg (2 * x32)) a4) fun J44 =>
                                        if inB ((2 * x32) + 1) 16 = true then
                                          bnd (up2 J44 ((q + 5)) (Int32.toNatClampNeg ((2 * x32) + 1)) a5) fun J46 =>
                                          if a0 = 3 then
                                            g_X2_addGlass_166 n q a0 a3 x32 ((2 * a3)) x32 J46
                                          else
                                            g_X2_addGlass_166 n q a0 a3 x32 a3 x32 J46
                                        else none
                                      else none
                                    else none
                                  else none
                                else none
                              else none
                            else none
set_option maxRecDepth 20000 in
theorem t_X2_addGlass {q : Nat} (hq : q = 5 ∨ q = 18) {p : Nat} {n : Nat} {a0 : Int32} {a1 : Int32} {a2 : Int32} {a3 : Int32} {a4 : Int32} {a5 : Int32} {I : IH} {w : Int32 × IH} (hg : g_X2_addGlass n q a0 a1 a2 a3 a4 a5 I = some w) : TT none mt_X2_addGlass 0 (lv_args 0 [.ref q, .int a0, .int a1, .int a2, .int a3, .int a4, .int a5]) [] (83, I, R0 p) (some (.int w.1)) (83, w.2, R0 p) := by
  unfold g_X2_addGlass at hg
  refine TT_go 3 (pc' := 6) (lv' := [(0, .ref q), (1, .int a0), (2, .int a1), (3, .int a2), (4, .int a3), (5, .int a4), (6, .int a5)]) (st' := [.int 8, .int (I q 0)]) (h2 := (83, I, R0 p)) (by rcases hq with rfl | rfl <;> rfl) ?_
  by_cases hc1 : 8 ≤ (I q 0)
  · rw [if_pos hc1] at hg
    refine TT_ige_t (t := 67) rfl rfl hc1 ?_
    refine TT_go 1 (pc' := 68) (lv' := [(0, .ref q), (1, .int a0), (2, .int a1), (3, .int a2), (4, .int a3), (5, .int a4), (6, .int a5)]) (st' := [.int 0]) (h2 := (83, I, R0 p)) (by rcases hq with rfl | rfl <;> rfl) ?_
    have hg := Option.some.inj hg
    subst hg
    exact TT_ret rfl rfl
  · rw [if_neg hc1] at hg
    refine TT_ige_f (t := 67) rfl rfl hc1 ?_
    refine TT_go 3 (pc' := 12) (lv' := [(0, .ref q), (1, .int a0), (2, .int a1), (3, .int a2), (4, .int a3), (5, .int a4), (6, .int a5)]) (st' := [.int 3, .int 0, .int a0]) (h2 := (83, I, R0 p)) (by rcases hq with rfl | rfl <;> rfl) ?_
    cases hq2 : g_X8_within n a0 0 3 I with
    | none => rw [hq2] at hg; cases hg
    | some w3 =>
      obtain ⟨r5, J4⟩ := w3
      rw [hq2] at hg
      dsimp only at hg
      refine TT_call (me' := mt_X8_within) (as := [.int a0, .int 0, .int 3]) (rest := []) (r1 := some (.int r5)) (h1 := (83, J4, R0 p)) rfl rfl (by rcases hq with rfl | rfl <;> rfl) (t_X8_within hq2) ?_
      refine TT_go 0 (pc' := 15) (lv' := [(0, .ref q), (1, .int a0), (2, .int a1), (3, .int a2), (4, .int a3), (5, .int a4), (6, .int a5)]) (st' := [.int r5]) (h2 := (83, J4, R0 p)) (by rcases hq with rfl | rfl <;> rfl) ?_
      by_cases hc6 : r5 = 0
      · rw [if_pos hc6] at hg
        refine TT_zeq_t (t := 67) rfl rfl hc6 ?_
        refine TT_go 1 (pc' := 68) (lv' := [(0, .ref q), (1, .int a0), (2, .int a1), (3, .int a2), (4, .int a3), (5, .int a4), (6, .int a5)]) (st' := [.int 0]) (h2 := (83, J4, R0 p)) (by rcases hq with rfl | rfl <;> rfl) ?_
        have hg := Option.some.inj hg
        subst hg
        exact TT_ret rfl rfl
      · rw [if_neg hc6] at hg
        refine TT_zeq_f (t := 67) rfl rfl hc6 ?_
        refine TT_go 1 (pc' := 19) (lv' := [(0, .ref q), (1, .int a0), (2, .int a1), (3, .int a2), (4, .int a3), (5, .int a4), (6, .int a5)]) (st' := [.int a1]) (h2 := (83, J4, R0 p)) (by rcases hq with rfl | rfl <;> rfl) ?_
        cases hq7 : g_X8_isHand n a1 J4 with
        | none => rw [hq7] at hg; cases hg
        | some w8 =>
          obtain ⟨r10, J9⟩ := w8
          rw [hq7] at hg
          dsimp only at hg
          refine TT_call (me' := mt_X8_isHand) (as := [.int a1]) (rest := []) (r1 := some (.int r10)) (h1 := (83, J9, R0 p)) rfl rfl (by rcases hq with rfl | rfl <;> rfl) (t_X8_isHand hq7) ?_
          refine TT_go 0 (pc' := 22) (lv' := [(0, .ref q), (1, .int a0), (2, .int a1), (3, .int a2), (4, .int a3), (5, .int a4), (6, .int a5)]) (st' := [.int r10]) (h2 := (83, J9, R0 p)) (by rcases hq with rfl | rfl <;> rfl) ?_
          by_cases hc11 : r10 = 0
          · rw [if_pos hc11] at hg
            refine TT_zeq_t (t := 67) rfl rfl hc11 ?_
            refine TT_go 1 (pc' := 68) (lv' := [(0, .ref q), (1, .int a0), (2, .int a1), (3, .int a2), (4, .int a3), (5, .int a4), (6, .int a5)]) (st' := [.int 0]) (h2 := (83, J9, R0 p)) (by rcases hq with rfl | rfl <;> rfl) ?_
            have hg := Option.some.inj hg
            subst hg
            exact TT_ret rfl rfl
          · rw [if_neg hc11] at hg
            refine TT_zeq_f (t := 67) rfl rfl hc11 ?_
            refine TT_go 1 (pc' := 26) (lv' := [(0, .ref q), (1, .int a0), (2, .int a1), (3, .int a2), (4, .int a3), (5, .int a4), (6, .int a5)]) (st' := [.int a2]) (h2 := (83, J9, R0 p)) (by rcases hq with rfl | rfl <;> rfl) ?_
            cases hq12 : g_X8_isHand n a2 J9 with
            | none => rw [hq12] at hg; cases hg
            | some w13 =>
              obtain ⟨r15, J14⟩ := w13
              rw [hq12] at hg
              dsimp only at hg
              refine TT_call (me' := mt_X8_isHand) (as := [.int a2]) (rest := []) (r1 := some (.int r15)) (h1 := (83, J14, R0 p)) rfl rfl (by rcases hq with rfl | rfl <;> rfl) (t_X8_isHand hq12) ?_
              refine TT_go 0 (pc' := 29) (lv' := [(0, .ref q), (1, .int a0), (2, .int a1), (3, .int a2), (4, .int a3), (5, .int a4), (6, .int a5)]) (st' := [.int r15]) (h2 := (83, J14, R0 p)) (by rcases hq with rfl | rfl <;> rfl) ?_
              by_cases hc16 : r15 = 0
              · rw [if_pos hc16] at hg
                refine TT_zeq_t (t := 67) rfl rfl hc16 ?_
                refine TT_go 1 (pc' := 68) (lv' := [(0, .ref q), (1, .int a0), (2, .int a1), (3, .int a2), (4, .int a3), (5, .int a4), (6, .int a5)]) (st' := [.int 0]) (h2 := (83, J14, R0 p)) (by rcases hq with rfl | rfl <;> rfl) ?_
                have hg := Option.some.inj hg
                subst hg
                exact TT_ret rfl rfl
              · rw [if_neg hc16] at hg
                refine TT_zeq_f (t := 67) rfl rfl hc16 ?_
                refine TT_go 3 (pc' := 37) (lv' := [(0, .ref q), (1, .int a0), (2, .int a1), (3, .int a2), (4, .int a3), (5, .int a4), (6, .int a5)]) (st' := [.int 60, .int 1, .int a3]) (h2 := (83, J14, R0 p)) (by rcases hq with rfl | rfl <;> rfl) ?_
                cases hq17 : g_X8_within n a3 1 60 J14 with
                | none => rw [hq17] at hg; cases hg
                | some w18 =>
                  obtain ⟨r20, J19⟩ := w18
                  rw [hq17] at hg
                  dsimp only at hg
                  refine TT_call (me' := mt_X8_within) (as := [.int a3, .int 1, .int 60]) (rest := []) (r1 := some (.int r20)) (h1 := (83, J19, R0 p)) rfl rfl (by rcases hq with rfl | rfl <;> rfl) (t_X8_within hq17) ?_
                  refine TT_go 0 (pc' := 40) (lv' := [(0, .ref q), (1, .int a0), (2, .int a1), (3, .int a2), (4, .int a3), (5, .int a4), (6, .int a5)]) (st' := [.int r20]) (h2 := (83, J19, R0 p)) (by rcases hq with rfl | rfl <;> rfl) ?_
                  by_cases hc21 : r20 = 0
                  · rw [if_pos hc21] at hg
                    refine TT_zeq_t (t := 67) rfl rfl hc21 ?_
                    refine TT_go 1 (pc' := 68) (lv' := [(0, .ref q), (1, .int a0), (2, .int a1), (3, .int a2), (4, .int a3), (5, .int a4), (6, .int a5)]) (st' := [.int 0]) (h2 := (83, J19, R0 p)) (by rcases hq with rfl | rfl <;> rfl) ?_
                    have hg := Option.some.inj hg
                    subst hg
                    exact TT_ret rfl rfl
                  · rw [if_neg hc21] at hg
                    refine TT_zeq_f (t := 67) rfl rfl hc21 ?_
                    refine TT_go 3 (pc' := 49) (lv' := [(0, .ref q), (1, .int a0), (2, .int a1), (3, .int a2), (4, .int a3), (5, .int a4), (6, .int a5)]) (st' := [.int 999, .int 0, .int a4]) (h2 := (83, J19, R0 p)) (by rcases hq with rfl | rfl <;> rfl) ?_
                    cases hq22 : g_X8_within n a4 0 999 J19 with
                    | none => rw [hq22] at hg; cases hg
                    | some w23 =>
                      obtain ⟨r25, J24⟩ := w23
                      rw [hq22] at hg
                      dsimp only at hg
                      refine TT_call (me' := mt_X8_within) (as := [.int a4, .int 0, .int 999]) (rest := []) (r1 := some (.int r25)) (h1 := (83, J24, R0 p)) rfl rfl (by rcases hq with rfl | rfl <;> rfl) (t_X8_within hq22) ?_
                      refine TT_go 0 (pc' := 52) (lv' := [(0, .ref q), (1, .int a0), (2, .int a1), (3, .int a2), (4, .int a3), (5, .int a4), (6, .int a5)]) (st' := [.int r25]) (h2 := (83, J24, R0 p)) (by rcases hq with rfl | rfl <;> rfl) ?_
                      by_cases hc26 : r25 = 0
                      · rw [if_pos hc26] at hg
                        refine TT_zeq_t (t := 67) rfl rfl hc26 ?_
                        refine TT_go 1 (pc' := 68) (lv' := [(0, .ref q), (1, .int a0), (2, .int a1), (3, .int a2), (4, .int a3), (5, .int a4), (6, .int a5)]) (st' := [.int 0]) (h2 := (83, J24, R0 p)) (by rcases hq with rfl | rfl <;> rfl) ?_
                        have hg := Option.some.inj hg
                        subst hg
                        exact TT_ret rfl rfl
                      · rw [if_neg hc26] at hg
                        refine TT_zeq_f (t := 67) rfl rfl hc26 ?_
                        refine TT_go 3 (pc' := 61) (lv' := [(0, .ref q), (1, .int a0), (2, .int a1), (3, .int a2), (4, .int a3), (5, .int a4), (6, .int a5)]) (st' := [.int 999, .int 0, .int a5]) (h2 := (83, J24, R0 p)) (by rcases hq with rfl | rfl <;> rfl) ?_
                        cases hq27 : g_X8_within n a5 0 999 J24 with
                        | none => rw [hq27] at hg; cases hg
                        | some w28 =>
                          obtain ⟨r30, J29⟩ := w28
                          rw [hq27] at hg
                          dsimp only at hg
                          refine TT_call (me' := mt_X8_within) (as := [.int a5, .int 0, .int 999]) (rest := []) (r1 := some (.int r30)) (h1 := (83, J29, R0 p)) rfl rfl (by rcases hq with rfl | rfl <;> rfl) (t_X8_within hq27) ?_
                          refine TT_go 0 (pc' := 64) (lv' := [(0, .ref q), (1, .int a0), (2, .int a1), (3, .int a2), (4, .int a3), (5, .int a4), (6, .int a5)]) (st' := [.int r30]) (h2 := (83, J29, R0 p)) (by rcases hq with rfl | rfl <;> rfl) ?_
                          by_cases hc31 : r30 = 0
                          · rw [if_pos hc31] at hg
                            refine TT_zne_f (t := 69) rfl rfl hc31 ?_
                            refine TT_go 1 (pc' := 68) (lv' := [(0, .ref q), (1, .int a0), (2, .int a1), (3, .int a2), (4, .int a3), (5, .int a4), (6, .int a5)]) (st' := [.int 0]) (h2 := (83, J29, R0 p)) (by rcases hq with rfl | rfl <;> rfl) ?_
                            have hg := Option.some.inj hg
                            subst hg
                            exact TT_ret rfl rfl
                          · rw [if_neg hc31] at hg
                            refine TT_zne_t (t := 69) rfl rfl hc31 ?_
                            obtain ⟨x32, hx32⟩ : ∃ x : Int32, x = ((J29 q 0)) := ⟨_, rfl⟩
                            replace hg := bnd_use hx32 hg
                            refine TT_go 3 (pc' := 75) (lv' := [(7, .int x32), (0, .ref q), (1, .int a0), (2, .int a1), (3, .int a2), (4, .int a3), (5, .int a4), (6, .int a5)]) (st' := []) (h2 := (83, J29, R0 p)) (by subst hx32; rcases hq with rfl | rfl <;> rfl) ?_
                            refine TT_go 4 (pc' := 82) (lv' := [(7, .int x32), (0, .ref q), (1, .int a0), (2, .int a1), (3, .int a2), (4, .int a3), (5, .int a4), (6, .int a5)]) (st' := [.int a0, .int x32, .ref (q + 1)]) (h2 := (83, J29, R0 p)) (by rcases hq with rfl | rfl <;> rfl) ?_
                            by_cases hb33 : inB x32 8 = true
                            rotate_left
                            · rw [if_neg hb33] at hg; cases hg
                            rw [if_pos hb33] at hg
                            refine TT_iast (n := 8) rfl (by rcases hq with rfl | rfl <;> rfl) hb33 ?_
                            obtain ⟨J34, hJ34⟩ : ∃ x : IH, x = (up2 J29 ((q + 1)) (Int32.toNatClampNeg x32) a0) := ⟨_, rfl⟩
                            replace hg := bnd_use hJ34 hg
                            refine TT_go 0 (pc' := 83) (lv' := [(7, .int x32), (0, .ref q), (1, .int a0), (2, .int a1), (3, .int a2), (4, .int a3), (5, .int a4), (6, .int a5)]) (st' := []) (h2 := (83, J34, R0 p)) (by subst hJ34; rcases hq with rfl | rfl <;> rfl) ?_
                            refine TT_go 4 (pc' := 91) (lv' := [(7, .int x32), (0, .ref q), (1, .int a0), (2, .int a1), (3, .int a2), (4, .int a3), (5, .int a4), (6, .int a5)]) (st' := [.int a3, .int x32, .ref (q + 2)]) (h2 := (83, J34, R0 p)) (by rcases hq with rfl | rfl <;> rfl) ?_
                            by_cases hb35 : inB x32 8 = true
                            rotate_left
                            · rw [if_neg hb35] at hg; cases hg
                            rw [if_pos hb35] at hg
                            refine TT_iast (n := 8) rfl (by rcases hq with rfl | rfl <;> rfl) hb35 ?_
                            obtain ⟨J36, hJ36⟩ : ∃ x : IH, x = (up2 J34 ((q + 2)) (Int32.toNatClampNeg x32) a3) := ⟨_, rfl⟩
                            replace hg := bnd_use hJ36 hg
                            refine TT_go 0 (pc' := 92) (lv' := [(7, .int x32), (0, .ref q), (1, .int a0), (2, .int a1), (3, .int a2), (4, .int a3), (5, .int a4), (6, .int a5)]) (st' := []) (h2 := (83, J36, R0 p)) (by subst hJ36; rcases hq with rfl | rfl <;> rfl) ?_
                            refine TT_go 4 (pc' := 99) (lv' := [(7, .int x32), (0, .ref q), (1, .int a0), (2, .int a1), (3, .int a2), (4, .int a3), (5, .int a4), (6, .int a5)]) (st' := [.int a1, .int x32, .ref (q + 3)]) (h2 := (83, J36, R0 p)) (by rcases hq with rfl | rfl <;> rfl) ?_
                            by_cases hb37 : inB x32 8 = true
                            rotate_left
                            · rw [if_neg hb37] at hg; cases hg
                            rw [if_pos hb37] at hg
                            refine TT_iast (n := 8) rfl (by rcases hq with rfl | rfl <;> rfl) hb37 ?_
                            obtain ⟨J38, hJ38⟩ : ∃ x : IH, x = (up2 J36 ((q + 3)) (Int32.toNatClampNeg x32) a1) := ⟨_, rfl⟩
                            replace hg := bnd_use hJ38 hg
                            refine TT_go 0 (pc' := 100) (lv' := [(7, .int x32), (0, .ref q), (1, .int a0), (2, .int a1), (3, .int a2), (4, .int a3), (5, .int a4), (6, .int a5)]) (st' := []) (h2 := (83, J38, R0 p)) (by subst hJ38; rcases hq with rfl | rfl <;> rfl) ?_
                            refine TT_go 6 (pc' := 109) (lv' := [(7, .int x32), (0, .ref q), (1, .int a0), (2, .int a1), (3, .int a2), (4, .int a3), (5, .int a4), (6, .int a5)]) (st' := [.int a1, .int (2 * x32), .ref (q + 4)]) (h2 := (83, J38, R0 p)) (by rcases hq with rfl | rfl <;> rfl) ?_
                            by_cases hb39 : inB (2 * x32) 16 = true
                            rotate_left
                            · rw [if_neg hb39] at hg; cases hg
                            rw [if_pos hb39] at hg
                            refine TT_iast (n := 16) rfl (by rcases hq with rfl | rfl <;> rfl) hb39 ?_
                            obtain ⟨J40, hJ40⟩ : ∃ x : IH, x = (up2 J38 ((q + 4)) (Int32.toNatClampNeg (2 * x32)) a1) := ⟨_, rfl⟩
                            replace hg := bnd_use hJ40 hg
                            refine TT_go 0 (pc' := 110) (lv' := [(7, .int x32), (0, .ref q), (1, .int a0), (2, .int a1), (3, .int a2), (4, .int a3), (5, .int a4), (6, .int a5)]) (st' := []) (h2 := (83, J40, R0 p)) (by subst hJ40; rcases hq with rfl | rfl <;> rfl) ?_
                            refine TT_go 8 (pc' := 121) (lv' := [(7, .int x32), (0, .ref q), (1, .int a0), (2, .int a1), (3, .int a2), (4, .int a3), (5, .int a4), (6, .int a5)]) (st' := [.int a2, .int ((2 * x32) + 1), .ref (q + 4)]) (h2 := (83, J40, R0 p)) (by rcases hq with rfl | rfl <;> rfl) ?_
                            by_cases hb41 : inB ((2 * x32) + 1) 16 = true
                            rotate_left
                            · rw [if_neg hb41] at hg; cases hg
                            rw [if_pos hb41] at hg
                            refine TT_iast (n := 16) rfl (by rcases hq with rfl | rfl <;> rfl) hb41 ?_
                            obtain ⟨J42, hJ42⟩ : ∃ x : IH, x = (up2 J40 ((q + 4)) (Int32.toNatClampNeg ((2 * x32) + 1)) a2) := ⟨_, rfl⟩
                            replace hg := bnd_use hJ42 hg
                            refine TT_go 0 (pc' := 122) (lv' := [(7, .int x32), (0, .ref q), (1, .int a0), (2, .int a1), (3, .int a2), (4, .int a3), (5, .int a4), (6, .int a5)]) (st' := []) (h2 := (83, J42, R0 p)) (by subst hJ42; rcases hq with rfl | rfl <;> rfl) ?_
                            refine TT_go 6 (pc' := 132) (lv' := [(7, .int x32), (0, .ref q), (1, .int a0), (2, .int a1), (3, .int a2), (4, .int a3), (5, .int a4), (6, .int a5)]) (st' := [.int a4, .int (2 * x32), .ref (q + 5)]) (h2 := (83, J42, R0 p)) (by rcases hq with rfl | rfl <;> rfl) ?_
                            by_cases hb43 : inB (2 * x32) 16 = true
                            rotate_left
                            · rw [if_neg hb43] at hg; cases hg
                            rw [if_pos hb43] at hg
                            refine TT_iast (n := 16) rfl (by rcases hq with rfl | rfl <;> rfl) hb43 ?_
                            obtain ⟨J44, hJ44⟩ : ∃ x : IH, x = (up2 J42 ((q + 5)) (Int32.toNatClampNeg (2 * x32)) a4) := ⟨_, rfl⟩
                            replace hg := bnd_use hJ44 hg
                            refine TT_go 0 (pc' := 133) (lv' := [(7, .int x32), (0, .ref q), (1, .int a0), (2, .int a1), (3, .int a2), (4, .int a3), (5, .int a4), (6, .int a5)]) (st' := []) (h2 := (83, J44, R0 p)) (by subst hJ44; rcases hq with rfl | rfl <;> rfl) ?_
                            refine TT_go 8 (pc' := 145) (lv' := [(7, .int x32), (0, .ref q), (1, .int a0), (2, .int a1), (3, .int a2), (4, .int a3), (5, .int a4), (6, .int a5)]) (st' := [.int a5, .int ((2 * x32) + 1), .ref (q + 5)]) (h2 := (83, J44, R0 p)) (by rcases hq with rfl | rfl <;> rfl) ?_
                            by_cases hb45 : inB ((2 * x32) + 1) 16 = true
                            rotate_left
                            · rw [if_neg hb45] at hg; cases hg
                            rw [if_pos hb45] at hg
                            refine TT_iast (n := 16) rfl (by rcases hq with rfl | rfl <;> rfl) hb45 ?_
                            obtain ⟨J46, hJ46⟩ : ∃ x : IH, x = (up2 J44 ((q + 5)) (Int32.toNatClampNeg ((2 * x32) + 1)) a5) := ⟨_, rfl⟩
                            replace hg := bnd_use hJ46 hg
                            refine TT_go 0 (pc' := 146) (lv' := [(7, .int x32), (0, .ref q), (1, .int a0), (2, .int a1), (3, .int a2), (4, .int a3), (5, .int a4), (6, .int a5)]) (st' := []) (h2 := (83, J46, R0 p)) (by subst hJ46; rcases hq with rfl | rfl <;> rfl) ?_
                            refine TT_go 5 (pc' := 154) (lv' := [(7, .int x32), (0, .ref q), (1, .int a0), (2, .int a1), (3, .int a2), (4, .int a3), (5, .int a4), (6, .int a5)]) (st' := [.int 3, .int a0, .int x32, .ref (q + 6)]) (h2 := (83, J46, R0 p)) (by rcases hq with rfl | rfl <;> rfl) ?_
                            by_cases hc47 : a0 = 3
                            · rw [if_pos hc47] at hg
                              refine TT_ine_f (t := 164) rfl rfl hc47 ?_
                              refine TT_go 4 (pc' := 166) (lv' := [(7, .int x32), (0, .ref q), (1, .int a0), (2, .int a1), (3, .int a2), (4, .int a3), (5, .int a4), (6, .int a5)]) (st' := [.int (2 * a3), .int x32, .ref (q + 6)]) (h2 := (83, J46, R0 p)) (by rcases hq with rfl | rfl <;> rfl) ?_
                              refine TT_sub (lv2 := [(0, .ref q), (1, .int a0), (4, .int a3), (7, .int x32)]) rfl rfl ⟨rfl, rfl, rfl, rfl, trivial⟩ ?_
                              exact t_X2_addGlass_166 hq hg
                            · rw [if_neg hc47] at hg
                              refine TT_ine_t (t := 164) rfl rfl hc47 ?_
                              refine TT_go 1 (pc' := 166) (lv' := [(7, .int x32), (0, .ref q), (1, .int a0), (2, .int a1), (3, .int a2), (4, .int a3), (5, .int a4), (6, .int a5)]) (st' := [.int a3, .int x32, .ref (q + 6)]) (h2 := (83, J46, R0 p)) (by rcases hq with rfl | rfl <;> rfl) ?_
                              refine TT_sub (lv2 := [(0, .ref q), (1, .int a0), (4, .int a3), (7, .int x32)]) rfl rfl ⟨rfl, rfl, rfl, rfl, trivial⟩ ?_
                              exact t_X2_addGlass_166 hq hg
