/-! Written by wip/whole/gen20.py. -/
def g_X9_round_117 (n : Nat) (k80 : Int32 → Int32 → Int32 → Int32 → Int32 → Int32 → Int32 → IH → Option (Int32 × IH)) (v1 : Int32) (v2 : Int32) (v3 : Int32) (v4 : Int32) (v5 : Int32) (v6 : Int32) (v7 : Int32) (I : IH) : Option (Int32 × IH) :=
  bnd (v7 + 1) fun x28 =>
  k80 v1 v2 v3 v4 v5 v6 x28 I
set_option maxRecDepth 20000 in
theorem t_X9_round_117 {p : Nat} {n : Nat} {k80 : Int32 → Int32 → Int32 → Int32 → Int32 → Int32 → Int32 → IH → Option (Int32 × IH)} (hk80 : ∀ (v1 : Int32) (v2 : Int32) (v3 : Int32) (v4 : Int32) (v5 : Int32) (v6 : Int32) (v7 : Int32) (I : IH) (w : Int32 × IH), k80 v1 v2 v3 v4 v5 v6 v7 I = some w → TT none mt_X9_round 80 [(0, .ref 55), (1, .int v1), (2, .int v2), (3, .int v3), (4, .int v4), (5, .int v5), (6, .int v6), (7, .int v7)] [] (83, I, R0 p) (some (.int w.1)) (83, w.2, R0 p)) {v1 : Int32} {v2 : Int32} {v3 : Int32} {v4 : Int32} {v5 : Int32} {v6 : Int32} {v7 : Int32} {I : IH} {w : Int32 × IH} (hg : g_X9_round_117 n k80 v1 v2 v3 v4 v5 v6 v7 I = some w) : TT none mt_X9_round 117 [(0, .ref 55), (1, .int v1), (2, .int v2), (3, .int v3), (4, .int v4), (5, .int v5), (6, .int v6), (7, .int v7)] [] (83, I, R0 p) (some (.int w.1)) (83, w.2, R0 p) := by
  unfold g_X9_round_117 at hg
  obtain ⟨x28, hx28⟩ : ∃ x : Int32, x = (v7 + 1) := ⟨_, rfl⟩
  replace hg := bnd_use hx28 hg
  refine TT_go 1 (pc' := 120) (lv' := [(7, .int x28), (0, .ref 55), (1, .int v1), (2, .int v2), (3, .int v3), (4, .int v4), (5, .int v5), (6, .int v6)]) (st' := []) (h2 := (83, I, R0 p)) (by subst hx28; rfl) ?_
  refine TT_go 1 (pc' := 80) (lv' := [(7, .int x28), (0, .ref 55), (1, .int v1), (2, .int v2), (3, .int v3), (4, .int v4), (5, .int v5), (6, .int v6)]) (st' := []) (h2 := (83, I, R0 p)) (by rfl) ?_
  refine TT_sub (lv2 := [(0, .ref 55), (1, .int v1), (2, .int v2), (3, .int v3), (4, .int v4), (5, .int v5), (6, .int v6), (7, .int x28)]) rfl rfl ⟨rfl, rfl, rfl, rfl, rfl, rfl, rfl, rfl, trivial⟩ ?_
  exact hk80 v1 v2 v3 v4 v5 v6 x28 _ _ hg
def g_X9_round_109 (n : Nat) (k80 : Int32 → Int32 → Int32 → Int32 → Int32 → Int32 → Int32 → IH → Option (Int32 × IH)) (v1 : Int32) (v2 : Int32) (v3 : Int32) (v4 : Int32) (v7 : Int32) (v8 : Int32) (I : IH) : Option (Int32 × IH) :=
  g_X9_round_117 n k80 v1 v2 v3 v4 v7 v8 v7 I
set_option maxRecDepth 20000 in
theorem t_X9_round_109 {p : Nat} {n : Nat} {k80 : Int32 → Int32 → Int32 → Int32 → Int32 → Int32 → Int32 → IH → Option (Int32 × IH)} (hk80 : ∀ (v1 : Int32) (v2 : Int32) (v3 : Int32) (v4 : Int32) (v5 : Int32) (v6 : Int32) (v7 : Int32) (I : IH) (w : Int32 × IH), k80 v1 v2 v3 v4 v5 v6 v7 I = some w → TT none mt_X9_round 80 [(0, .ref 55), (1, .int v1), (2, .int v2), (3, .int v3), (4, .int v4), (5, .int v5), (6, .int v6), (7, .int v7)] [] (83, I, R0 p) (some (.int w.1)) (83, w.2, R0 p)) {v1 : Int32} {v2 : Int32} {v3 : Int32} {v4 : Int32} {v7 : Int32} {v8 : Int32} {I : IH} {w : Int32 × IH} (hg : g_X9_round_109 n k80 v1 v2 v3 v4 v7 v8 I = some w) : TT none mt_X9_round 109 [(0, .ref 55), (1, .int v1), (2, .int v2), (3, .int v3), (4, .int v4), (7, .int v7), (8, .int v8)] [] (83, I, R0 p) (some (.int w.1)) (83, w.2, R0 p) := by
  unfold g_X9_round_109 at hg
  refine TT_go 4 (pc' := 117) (lv' := [(6, .int v8), (5, .int v7), (0, .ref 55), (1, .int v1), (2, .int v2), (3, .int v3), (4, .int v4), (7, .int v7), (8, .int v8)]) (st' := []) (h2 := (83, I, R0 p)) (by rfl) ?_
  refine TT_sub (lv2 := [(0, .ref 55), (1, .int v1), (2, .int v2), (3, .int v3), (4, .int v4), (5, .int v7), (6, .int v8), (7, .int v7)]) rfl rfl ⟨rfl, rfl, rfl, rfl, rfl, rfl, rfl, rfl, trivial⟩ ?_
  exact t_X9_round_117 hk80 hg
def g_X9_round_80 : Nat → Int32 → Int32 → Int32 → Int32 → Int32 → Int32 → Int32 → IH → Option (Int32 × IH)
  | 0, _, _, _, _, _, _, _, _ => none
  | n + 1, v1, v2, v3, v4, v5, v6, v7, I =>
    if v4 ≤ v7 then
      if 0 ≤ v3 then
        match g_X9_figure n v5 v1 v3 I with
        | none => none
        | some (r22, J21) =>
          some (r22, J21)
      else
        some (v6, I)
    else
      match g_X9_roundOf n v7 v1 v2 I with
      | none => none
      | some (r26, J25) =>
        if v5 < 0 then
          g_X9_round_109 n (g_X9_round_80 n) v1 v2 v3 v4 v7 r26 J25
        else
          if v6 ≤ r26 then
            g_X9_round_117 n (g_X9_round_80 n) v1 v2 v3 v4 v5 v6 v7 J25
          else
            g_X9_round_109 n (g_X9_round_80 n) v1 v2 v3 v4 v7 r26 J25
set_option maxRecDepth 20000 in
theorem t_X9_round_80 {p : Nat} : ∀ (n : Nat) (v1 : Int32) (v2 : Int32) (v3 : Int32) (v4 : Int32) (v5 : Int32) (v6 : Int32) (v7 : Int32) (I : IH) (w : Int32 × IH), g_X9_round_80 n v1 v2 v3 v4 v5 v6 v7 I = some w → TT none mt_X9_round 80 [(0, .ref 55), (1, .int v1), (2, .int v2), (3, .int v3), (4, .int v4), (5, .int v5), (6, .int v6), (7, .int v7)] [] (83, I, R0 p) (some (.int w.1)) (83, w.2, R0 p) := by
  intro n
  induction n with
  | zero => intro v1 v2 v3 v4 v5 v6 v7 I w hg; cases hg
  | succ n ih =>
    intro v1 v2 v3 v4 v5 v6 v7 I w hg
    unfold g_X9_round_80 at hg
    refine TT_go 2 (pc' := 84) (lv' := [(0, .ref 55), (1, .int v1), (2, .int v2), (3, .int v3), (4, .int v4), (5, .int v5), (6, .int v6), (7, .int v7)]) (st' := [.int v4, .int v7]) (h2 := (83, I, R0 p)) (by rfl) ?_
    by_cases hc17 : v4 ≤ v7
    · rw [if_pos hc17] at hg
      refine TT_ige_t (t := 123) rfl rfl hc17 ?_
      refine TT_go 1 (pc' := 124) (lv' := [(0, .ref 55), (1, .int v1), (2, .int v2), (3, .int v3), (4, .int v4), (5, .int v5), (6, .int v6), (7, .int v7)]) (st' := [.int v3]) (h2 := (83, I, R0 p)) (by rfl) ?_
      by_cases hc18 : 0 ≤ v3
      · rw [if_pos hc18] at hg
        refine TT_zge_t (t := 132) rfl rfl hc18 ?_
        refine TT_go 4 (pc' := 137) (lv' := [(0, .ref 55), (1, .int v1), (2, .int v2), (3, .int v3), (4, .int v4), (5, .int v5), (6, .int v6), (7, .int v7)]) (st' := [.int v3, .int v1, .int v5, .ref 55]) (h2 := (83, I, R0 p)) (by rfl) ?_
        cases hq19 : g_X9_figure n v5 v1 v3 I with
        | none => rw [hq19] at hg; cases hg
        | some w20 =>
          obtain ⟨r22, J21⟩ := w20
          rw [hq19] at hg
          dsimp only at hg
          refine TT_call (me' := mt_X9_figure) (as := [.ref 55, .int v5, .int v1, .int v3]) (rest := []) (r1 := some (.int r22)) (h1 := (83, J21, R0 p)) rfl rfl (by rfl) (t_X9_figure hq19) ?_
          refine TT_go 0 (pc' := 140) (lv' := [(0, .ref 55), (1, .int v1), (2, .int v2), (3, .int v3), (4, .int v4), (5, .int v5), (6, .int v6), (7, .int v7)]) (st' := [.int r22]) (h2 := (83, J21, R0 p)) (by rfl) ?_
          have hg := Option.some.inj hg
          subst hg
          exact TT_ret rfl rfl
      · rw [if_neg hc18] at hg
        refine TT_zge_f (t := 132) rfl rfl hc18 ?_
        refine TT_go 2 (pc' := 140) (lv' := [(0, .ref 55), (1, .int v1), (2, .int v2), (3, .int v3), (4, .int v4), (5, .int v5), (6, .int v6), (7, .int v7)]) (st' := [.int v6]) (h2 := (83, I, R0 p)) (by rfl) ?_
        have hg := Option.some.inj hg
        subst hg
        exact TT_ret rfl rfl
    · rw [if_neg hc17] at hg
      refine TT_ige_f (t := 123) rfl rfl hc17 ?_
      refine TT_go 4 (pc' := 92) (lv' := [(0, .ref 55), (1, .int v1), (2, .int v2), (3, .int v3), (4, .int v4), (5, .int v5), (6, .int v6), (7, .int v7)]) (st' := [.int v2, .int v1, .int v7, .ref 55]) (h2 := (83, I, R0 p)) (by rfl) ?_
      cases hq23 : g_X9_roundOf n v7 v1 v2 I with
      | none => rw [hq23] at hg; cases hg
      | some w24 =>
        obtain ⟨r26, J25⟩ := w24
        rw [hq23] at hg
        dsimp only at hg
        refine TT_call (me' := mt_X9_roundOf) (as := [.ref 55, .int v7, .int v1, .int v2]) (rest := []) (r1 := some (.int r26)) (h1 := (83, J25, R0 p)) rfl rfl (by rfl) (t_X9_roundOf hq23) ?_
        refine TT_go 2 (pc' := 99) (lv' := [(8, .int r26), (0, .ref 55), (1, .int v1), (2, .int v2), (3, .int v3), (4, .int v4), (5, .int v5), (6, .int v6), (7, .int v7)]) (st' := [.int v5]) (h2 := (83, J25, R0 p)) (by rfl) ?_
        by_cases hc27 : v5 < 0
        · rw [if_pos hc27] at hg
          refine TT_zlt_t (t := 109) rfl rfl hc27 ?_
          refine TT_go 0 (pc' := 109) (lv' := [(8, .int r26), (0, .ref 55), (1, .int v1), (2, .int v2), (3, .int v3), (4, .int v4), (5, .int v5), (6, .int v6), (7, .int v7)]) (st' := []) (h2 := (83, J25, R0 p)) (by rfl) ?_
          refine TT_sub (lv2 := [(0, .ref 55), (1, .int v1), (2, .int v2), (3, .int v3), (4, .int v4), (7, .int v7), (8, .int r26)]) rfl rfl ⟨rfl, rfl, rfl, rfl, rfl, rfl, rfl, trivial⟩ ?_
          exact t_X9_round_109 ih hg
        · rw [if_neg hc27] at hg
          refine TT_zlt_f (t := 109) rfl rfl hc27 ?_
          refine TT_go 2 (pc' := 106) (lv' := [(8, .int r26), (0, .ref 55), (1, .int v1), (2, .int v2), (3, .int v3), (4, .int v4), (5, .int v5), (6, .int v6), (7, .int v7)]) (st' := [.int v6, .int r26]) (h2 := (83, J25, R0 p)) (by rfl) ?_
          by_cases hc29 : v6 ≤ r26
          · rw [if_pos hc29] at hg
            refine TT_ige_t (t := 117) rfl rfl hc29 ?_
            refine TT_go 0 (pc' := 117) (lv' := [(8, .int r26), (0, .ref 55), (1, .int v1), (2, .int v2), (3, .int v3), (4, .int v4), (5, .int v5), (6, .int v6), (7, .int v7)]) (st' := []) (h2 := (83, J25, R0 p)) (by rfl) ?_
            refine TT_sub (lv2 := [(0, .ref 55), (1, .int v1), (2, .int v2), (3, .int v3), (4, .int v4), (5, .int v5), (6, .int v6), (7, .int v7)]) rfl rfl ⟨rfl, rfl, rfl, rfl, rfl, rfl, rfl, rfl, trivial⟩ ?_
            exact t_X9_round_117 ih hg
          · rw [if_neg hc29] at hg
            refine TT_ige_f (t := 117) rfl rfl hc29 ?_
            refine TT_go 0 (pc' := 109) (lv' := [(8, .int r26), (0, .ref 55), (1, .int v1), (2, .int v2), (3, .int v3), (4, .int v4), (5, .int v5), (6, .int v6), (7, .int v7)]) (st' := []) (h2 := (83, J25, R0 p)) (by rfl) ?_
            refine TT_sub (lv2 := [(0, .ref 55), (1, .int v1), (2, .int v2), (3, .int v3), (4, .int v4), (7, .int v7), (8, .int r26)]) rfl rfl ⟨rfl, rfl, rfl, rfl, rfl, rfl, rfl, trivial⟩ ?_
            exact t_X9_round_109 ih hg
def g_X9_round_47 : Nat → Int32 → Int32 → Int32 → Int32 → Int32 → IH → Option (Int32 × IH)
  | 0, _, _, _, _, _, _ => none
  | n + 1, v1, v2, v3, v4, v5, I =>
    if v1 ≤ v5 then
      g_X9_round_80 n v1 v2 v3 v4 ((-4)) 0 0 I
    else
      bnd (I 57 0) fun x30 =>
      bnd ((v4 * x30)) fun x31 =>
      bnd (v5 + 1) fun x32 =>
      g_X9_round_47 n v1 v2 v3 x31 x32 I
set_option maxRecDepth 20000 in
theorem t_X9_round_47 {p : Nat} : ∀ (n : Nat) (v1 : Int32) (v2 : Int32) (v3 : Int32) (v4 : Int32) (v5 : Int32) (I : IH) (w : Int32 × IH), g_X9_round_47 n v1 v2 v3 v4 v5 I = some w → TT none mt_X9_round 47 [(0, .ref 55), (1, .int v1), (2, .int v2), (3, .int v3), (4, .int v4), (5, .int v5)] [] (83, I, R0 p) (some (.int w.1)) (83, w.2, R0 p) := by
  intro n
  induction n with
  | zero => intro v1 v2 v3 v4 v5 I w hg; cases hg
  | succ n ih =>
    intro v1 v2 v3 v4 v5 I w hg
    unfold g_X9_round_47 at hg
    refine TT_go 2 (pc' := 50) (lv' := [(0, .ref 55), (1, .int v1), (2, .int v2), (3, .int v3), (4, .int v4), (5, .int v5)]) (st' := [.int v1, .int v5]) (h2 := (83, I, R0 p)) (by rfl) ?_
    by_cases hc16 : v1 ≤ v5
    · rw [if_pos hc16] at hg
      refine TT_ige_t (t := 70) rfl rfl hc16 ?_
      refine TT_go 6 (pc' := 80) (lv' := [(7, .int 0), (6, .int 0), (5, .int (-4)), (0, .ref 55), (1, .int v1), (2, .int v2), (3, .int v3), (4, .int v4)]) (st' := []) (h2 := (83, I, R0 p)) (by rfl) ?_
      refine TT_sub (lv2 := [(0, .ref 55), (1, .int v1), (2, .int v2), (3, .int v3), (4, .int v4), (5, .int (-4)), (6, .int 0), (7, .int 0)]) rfl rfl ⟨rfl, rfl, rfl, rfl, rfl, rfl, rfl, rfl, trivial⟩ ?_
      exact t_X9_round_80 n v1 v2 v3 v4 ((-4)) 0 0 _ _ hg
    · rw [if_neg hc16] at hg
      refine TT_ige_f (t := 70) rfl rfl hc16 ?_
      obtain ⟨x30, hx30⟩ : ∃ x : Int32, x = (I 57 0) := ⟨_, rfl⟩
      replace hg := bnd_use hx30 hg
      refine TT_go 5 (pc' := 61) (lv' := [(0, .ref 55), (1, .int v1), (2, .int v2), (3, .int v3), (4, .int v4), (5, .int v5)]) (st' := [.int x30, .int v4]) (h2 := (83, I, R0 p)) (by subst hx30; rfl) ?_
      obtain ⟨x31, hx31⟩ : ∃ x : Int32, x = ((v4 * x30)) := ⟨_, rfl⟩
      replace hg := bnd_use hx31 hg
      refine TT_go 2 (pc' := 64) (lv' := [(4, .int x31), (0, .ref 55), (1, .int v1), (2, .int v2), (3, .int v3), (5, .int v5)]) (st' := []) (h2 := (83, I, R0 p)) (by subst hx31; rfl) ?_
      obtain ⟨x32, hx32⟩ : ∃ x : Int32, x = (v5 + 1) := ⟨_, rfl⟩
      replace hg := bnd_use hx32 hg
      refine TT_go 1 (pc' := 67) (lv' := [(5, .int x32), (4, .int x31), (0, .ref 55), (1, .int v1), (2, .int v2), (3, .int v3)]) (st' := []) (h2 := (83, I, R0 p)) (by subst hx32; rfl) ?_
      refine TT_go 1 (pc' := 47) (lv' := [(5, .int x32), (4, .int x31), (0, .ref 55), (1, .int v1), (2, .int v2), (3, .int v3)]) (st' := []) (h2 := (83, I, R0 p)) (by rfl) ?_
      refine TT_sub (lv2 := [(0, .ref 55), (1, .int v1), (2, .int v2), (3, .int v3), (4, .int x31), (5, .int x32)]) rfl rfl ⟨rfl, rfl, rfl, rfl, rfl, rfl, trivial⟩ ?_
      exact ih v1 v2 v3 x31 x32 _ _ hg
def g_X9_round (n : Nat) (a0 : Int32) (a1 : Int32) (a2 : Int32) (I : IH) : Option (Int32 × IH) :=
  match g_X9_in n (Int32.toInt64 a0) 1 3 I with
  | none => none
  | some (r4, J3) =>
    if r4 = 0 then
      some ((-1), J3)
    else
      match g_X9_in n (Int32.toInt64 a1) 1 200 J3 with
      | none => none
      | some (r9, J8) =>
        if r9 = 0 then
          some ((-1), J8)
        else
          match g_X9_in n (Int32.toInt64 a2) (-1) (Int32.toInt64 (a0 - 1)) J8 with
          | none => none
          | some (r14, J13) =>
            if r14 = 0 then
              some ((-1), J13)
            else
              g_X9_round_47 n a0 a1 a2 1 0 J13
set_option maxRecDepth 20000 in
theorem t_X9_round {p : Nat} {n : Nat} {a0 : Int32} {a1 : Int32} {a2 : Int32} {I : IH} {w : Int32 × IH} (hg : g_X9_round n a0 a1 a2 I = some w) : TT none mt_X9_round 0 (lv_args 0 [.ref 55, .int a0, .int a1, .int a2]) [] (83, I, R0 p) (some (.int w.1)) (83, w.2, R0 p) := by
  unfold g_X9_round at hg
  refine TT_go 4 (pc' := 6) (lv' := [(0, .ref 55), (1, .int a0), (2, .int a1), (3, .int a2)]) (st' := [.long 3, .long 1, .long (Int32.toInt64 a0)]) (h2 := (83, I, R0 p)) (by rfl) ?_
  cases hq1 : g_X9_in n (Int32.toInt64 a0) 1 3 I with
  | none => rw [hq1] at hg; cases hg
  | some w2 =>
    obtain ⟨r4, J3⟩ := w2
    rw [hq1] at hg
    dsimp only at hg
    refine TT_call (me' := mt_X9_in) (as := [.long (Int32.toInt64 a0), .long 1, .long 3]) (rest := []) (r1 := some (.int r4)) (h1 := (83, J3, R0 p)) rfl rfl (by rfl) (t_X9_in hq1) ?_
    refine TT_go 0 (pc' := 9) (lv' := [(0, .ref 55), (1, .int a0), (2, .int a1), (3, .int a2)]) (st' := [.int r4]) (h2 := (83, J3, R0 p)) (by rfl) ?_
    by_cases hc5 : r4 = 0
    · rw [if_pos hc5] at hg
      refine TT_zeq_t (t := 39) rfl rfl hc5 ?_
      refine TT_go 1 (pc' := 40) (lv' := [(0, .ref 55), (1, .int a0), (2, .int a1), (3, .int a2)]) (st' := [.int (-1)]) (h2 := (83, J3, R0 p)) (by rfl) ?_
      have hg := Option.some.inj hg
      subst hg
      exact TT_ret rfl rfl
    · rw [if_neg hc5] at hg
      refine TT_zeq_f (t := 39) rfl rfl hc5 ?_
      refine TT_go 4 (pc' := 18) (lv' := [(0, .ref 55), (1, .int a0), (2, .int a1), (3, .int a2)]) (st' := [.long 200, .long 1, .long (Int32.toInt64 a1)]) (h2 := (83, J3, R0 p)) (by rfl) ?_
      cases hq6 : g_X9_in n (Int32.toInt64 a1) 1 200 J3 with
      | none => rw [hq6] at hg; cases hg
      | some w7 =>
        obtain ⟨r9, J8⟩ := w7
        rw [hq6] at hg
        dsimp only at hg
        refine TT_call (me' := mt_X9_in) (as := [.long (Int32.toInt64 a1), .long 1, .long 200]) (rest := []) (r1 := some (.int r9)) (h1 := (83, J8, R0 p)) rfl rfl (by rfl) (t_X9_in hq6) ?_
        refine TT_go 0 (pc' := 21) (lv' := [(0, .ref 55), (1, .int a0), (2, .int a1), (3, .int a2)]) (st' := [.int r9]) (h2 := (83, J8, R0 p)) (by rfl) ?_
        by_cases hc10 : r9 = 0
        · rw [if_pos hc10] at hg
          refine TT_zeq_t (t := 39) rfl rfl hc10 ?_
          refine TT_go 1 (pc' := 40) (lv' := [(0, .ref 55), (1, .int a0), (2, .int a1), (3, .int a2)]) (st' := [.int (-1)]) (h2 := (83, J8, R0 p)) (by rfl) ?_
          have hg := Option.some.inj hg
          subst hg
          exact TT_ret rfl rfl
        · rw [if_neg hc10] at hg
          refine TT_zeq_f (t := 39) rfl rfl hc10 ?_
          refine TT_go 7 (pc' := 33) (lv' := [(0, .ref 55), (1, .int a0), (2, .int a1), (3, .int a2)]) (st' := [.long (Int32.toInt64 (a0 - 1)), .long (-1), .long (Int32.toInt64 a2)]) (h2 := (83, J8, R0 p)) (by rfl) ?_
          cases hq11 : g_X9_in n (Int32.toInt64 a2) (-1) (Int32.toInt64 (a0 - 1)) J8 with
          | none => rw [hq11] at hg; cases hg
          | some w12 =>
            obtain ⟨r14, J13⟩ := w12
            rw [hq11] at hg
            dsimp only at hg
            refine TT_call (me' := mt_X9_in) (as := [.long (Int32.toInt64 a2), .long (-1), .long (Int32.toInt64 (a0 - 1))]) (rest := []) (r1 := some (.int r14)) (h1 := (83, J13, R0 p)) rfl rfl (by rfl) (t_X9_in hq11) ?_
            refine TT_go 0 (pc' := 36) (lv' := [(0, .ref 55), (1, .int a0), (2, .int a1), (3, .int a2)]) (st' := [.int r14]) (h2 := (83, J13, R0 p)) (by rfl) ?_
            by_cases hc15 : r14 = 0
            · rw [if_pos hc15] at hg
              refine TT_zne_f (t := 41) rfl rfl hc15 ?_
              refine TT_go 1 (pc' := 40) (lv' := [(0, .ref 55), (1, .int a0), (2, .int a1), (3, .int a2)]) (st' := [.int (-1)]) (h2 := (83, J13, R0 p)) (by rfl) ?_
              have hg := Option.some.inj hg
              subst hg
              exact TT_ret rfl rfl
            · rw [if_neg hc15] at hg
              refine TT_zne_t (t := 41) rfl rfl hc15 ?_
              refine TT_go 4 (pc' := 47) (lv' := [(5, .int 0), (4, .int 1), (0, .ref 55), (1, .int a0), (2, .int a1), (3, .int a2)]) (st' := []) (h2 := (83, J13, R0 p)) (by rfl) ?_
              refine TT_sub (lv2 := [(0, .ref 55), (1, .int a0), (2, .int a1), (3, .int a2), (4, .int 1), (5, .int 0)]) rfl rfl ⟨rfl, rfl, rfl, rfl, rfl, rfl, trivial⟩ ?_
              exact t_X9_round_47 n a0 a1 a2 1 0 _ _ hg
def g_X9_counted (n : Nat) (a0 : Int32) (a1 : Int32) (a2 : Int32) (I : IH) : Option (Int32 × IH) :=
  match g_X9_isGlass n a0 I with
  | none => none
  | some (r4, J3) =>
    if r4 = 0 then
      some ((-1), J3)
    else
      match g_X9_isLater n a1 J3 with
      | none => none
      | some (r9, J8) =>
        if r9 = 0 then
          some ((-1), J8)
        else
          match g_X9_in n (Int32.toInt64 a2) 0 9999 J8 with
          | none => none
          | some (r14, J13) =>
            if r14 = 0 then
              some ((-1), J13)
            else
              bnd (J13 77 0) fun x16 =>
              if x16 = 12 then
                some ((-3), J13)
              else
                if inB (3 * x16) 108 = true then
                  bnd (up2 J13 78 (Int32.toNatClampNeg (3 * x16)) a0) fun J19 =>
                  if inB ((3 * x16) + 1) 108 = true then
                    bnd (up2 J19 78 (Int32.toNatClampNeg ((3 * x16) + 1)) a1) fun J21 =>
                    if inB ((3 * x16) + 2) 108 = true then
                      bnd (up2 J21 78 (Int32.toNatClampNeg ((3 * x16) + 2)) a2) fun J23 =>
                      bnd (J23 77 0) fun x24 =>
                      bnd (up2 J23 77 0 (x24 + 1)) fun J25 =>
                      bnd (J25 77 0) fun x26 =>
                      some (x26, J25)
                    else none
                  else none
                else none
set_option maxRecDepth 20000 in
theorem t_X9_counted {p : Nat} {n : Nat} {a0 : Int32} {a1 : Int32} {a2 : Int32} {I : IH} {w : Int32 × IH} (hg : g_X9_counted n a0 a1 a2 I = some w) : TT none mt_X9_counted 0 (lv_args 0 [.ref 55, .int a0, .int a1, .int a2]) [] (83, I, R0 p) (some (.int w.1)) (83, w.2, R0 p) := by
  unfold g_X9_counted at hg
  refine TT_go 2 (pc' := 2) (lv' := [(0, .ref 55), (1, .int a0), (2, .int a1), (3, .int a2)]) (st' := [.int a0, .ref 55]) (h2 := (83, I, R0 p)) (by rfl) ?_
  cases hq1 : g_X9_isGlass n a0 I with
  | none => rw [hq1] at hg; cases hg
  | some w2 =>
    obtain ⟨r4, J3⟩ := w2
    rw [hq1] at hg
    dsimp only at hg
    refine TT_call (me' := mt_X9_isGlass) (as := [.ref 55, .int a0]) (rest := []) (r1 := some (.int r4)) (h1 := (83, J3, R0 p)) rfl rfl (by rfl) (t_X9_isGlass hq1) ?_
    refine TT_go 0 (pc' := 5) (lv' := [(0, .ref 55), (1, .int a0), (2, .int a1), (3, .int a2)]) (st' := [.int r4]) (h2 := (83, J3, R0 p)) (by rfl) ?_
    by_cases hc5 : r4 = 0
    · rw [if_pos hc5] at hg
      refine TT_zeq_t (t := 27) rfl rfl hc5 ?_
      refine TT_go 1 (pc' := 28) (lv' := [(0, .ref 55), (1, .int a0), (2, .int a1), (3, .int a2)]) (st' := [.int (-1)]) (h2 := (83, J3, R0 p)) (by rfl) ?_
      have hg := Option.some.inj hg
      subst hg
      exact TT_ret rfl rfl
    · rw [if_neg hc5] at hg
      refine TT_zeq_f (t := 27) rfl rfl hc5 ?_
      refine TT_go 1 (pc' := 9) (lv' := [(0, .ref 55), (1, .int a0), (2, .int a1), (3, .int a2)]) (st' := [.int a1]) (h2 := (83, J3, R0 p)) (by rfl) ?_
      cases hq6 : g_X9_isLater n a1 J3 with
      | none => rw [hq6] at hg; cases hg
      | some w7 =>
        obtain ⟨r9, J8⟩ := w7
        rw [hq6] at hg
        dsimp only at hg
        refine TT_call (me' := mt_X9_isLater) (as := [.int a1]) (rest := []) (r1 := some (.int r9)) (h1 := (83, J8, R0 p)) rfl rfl (by rfl) (t_X9_isLater hq6) ?_
        refine TT_go 0 (pc' := 12) (lv' := [(0, .ref 55), (1, .int a0), (2, .int a1), (3, .int a2)]) (st' := [.int r9]) (h2 := (83, J8, R0 p)) (by rfl) ?_
        by_cases hc10 : r9 = 0
        · rw [if_pos hc10] at hg
          refine TT_zeq_t (t := 27) rfl rfl hc10 ?_
          refine TT_go 1 (pc' := 28) (lv' := [(0, .ref 55), (1, .int a0), (2, .int a1), (3, .int a2)]) (st' := [.int (-1)]) (h2 := (83, J8, R0 p)) (by rfl) ?_
          have hg := Option.some.inj hg
          subst hg
          exact TT_ret rfl rfl
        · rw [if_neg hc10] at hg
          refine TT_zeq_f (t := 27) rfl rfl hc10 ?_
          refine TT_go 4 (pc' := 21) (lv' := [(0, .ref 55), (1, .int a0), (2, .int a1), (3, .int a2)]) (st' := [.long 9999, .long 0, .long (Int32.toInt64 a2)]) (h2 := (83, J8, R0 p)) (by rfl) ?_
          cases hq11 : g_X9_in n (Int32.toInt64 a2) 0 9999 J8 with
          | none => rw [hq11] at hg; cases hg
          | some w12 =>
            obtain ⟨r14, J13⟩ := w12
            rw [hq11] at hg
            dsimp only at hg
            refine TT_call (me' := mt_X9_in) (as := [.long (Int32.toInt64 a2), .long 0, .long 9999]) (rest := []) (r1 := some (.int r14)) (h1 := (83, J13, R0 p)) rfl rfl (by rfl) (t_X9_in hq11) ?_
            refine TT_go 0 (pc' := 24) (lv' := [(0, .ref 55), (1, .int a0), (2, .int a1), (3, .int a2)]) (st' := [.int r14]) (h2 := (83, J13, R0 p)) (by rfl) ?_
            by_cases hc15 : r14 = 0
            · rw [if_pos hc15] at hg
              refine TT_zne_f (t := 29) rfl rfl hc15 ?_
              refine TT_go 1 (pc' := 28) (lv' := [(0, .ref 55), (1, .int a0), (2, .int a1), (3, .int a2)]) (st' := [.int (-1)]) (h2 := (83, J13, R0 p)) (by rfl) ?_
              have hg := Option.some.inj hg
              subst hg
              exact TT_ret rfl rfl
            · rw [if_neg hc15] at hg
              refine TT_zne_t (t := 29) rfl rfl hc15 ?_
              obtain ⟨x16, hx16⟩ : ∃ x : Int32, x = (J13 77 0) := ⟨_, rfl⟩
              replace hg := bnd_use hx16 hg
              refine TT_go 4 (pc' := 35) (lv' := [(0, .ref 55), (1, .int a0), (2, .int a1), (3, .int a2)]) (st' := [.int x16]) (h2 := (83, J13, R0 p)) (by subst hx16; rfl) ?_
              refine TT_go 3 (pc' := 41) (lv' := [(4, .int x16), (0, .ref 55), (1, .int a0), (2, .int a1), (3, .int a2)]) (st' := [.int 12, .int x16]) (h2 := (83, J13, R0 p)) (by rfl) ?_
              by_cases hc17 : x16 = 12
              · rw [if_pos hc17] at hg
                refine TT_ine_f (t := 47) rfl rfl hc17 ?_
                refine TT_go 1 (pc' := 46) (lv' := [(4, .int x16), (0, .ref 55), (1, .int a0), (2, .int a1), (3, .int a2)]) (st' := [.int (-3)]) (h2 := (83, J13, R0 p)) (by rfl) ?_
                have hg := Option.some.inj hg
                subst hg
                exact TT_ret rfl rfl
              · rw [if_neg hc17] at hg
                refine TT_ine_t (t := 47) rfl rfl hc17 ?_
                refine TT_go 6 (pc' := 56) (lv' := [(4, .int x16), (0, .ref 55), (1, .int a0), (2, .int a1), (3, .int a2)]) (st' := [.int a0, .int (3 * x16), .ref 78]) (h2 := (83, J13, R0 p)) (by rfl) ?_
                by_cases hb18 : inB (3 * x16) 108 = true
                rotate_left
                · rw [if_neg hb18] at hg; cases hg
                rw [if_pos hb18] at hg
                refine TT_iast (n := 108) rfl (by rfl) hb18 ?_
                obtain ⟨J19, hJ19⟩ : ∃ x : IH, x = (up2 J13 78 (Int32.toNatClampNeg (3 * x16)) a0) := ⟨_, rfl⟩
                replace hg := bnd_use hJ19 hg
                refine TT_go 0 (pc' := 57) (lv' := [(4, .int x16), (0, .ref 55), (1, .int a0), (2, .int a1), (3, .int a2)]) (st' := []) (h2 := (83, J19, R0 p)) (by subst hJ19; rfl) ?_
                refine TT_go 8 (pc' := 68) (lv' := [(4, .int x16), (0, .ref 55), (1, .int a0), (2, .int a1), (3, .int a2)]) (st' := [.int a1, .int ((3 * x16) + 1), .ref 78]) (h2 := (83, J19, R0 p)) (by rfl) ?_
                by_cases hb20 : inB ((3 * x16) + 1) 108 = true
                rotate_left
                · rw [if_neg hb20] at hg; cases hg
                rw [if_pos hb20] at hg
                refine TT_iast (n := 108) rfl (by rfl) hb20 ?_
                obtain ⟨J21, hJ21⟩ : ∃ x : IH, x = (up2 J19 78 (Int32.toNatClampNeg ((3 * x16) + 1)) a1) := ⟨_, rfl⟩
                replace hg := bnd_use hJ21 hg
                refine TT_go 0 (pc' := 69) (lv' := [(4, .int x16), (0, .ref 55), (1, .int a0), (2, .int a1), (3, .int a2)]) (st' := []) (h2 := (83, J21, R0 p)) (by subst hJ21; rfl) ?_
                refine TT_go 8 (pc' := 80) (lv' := [(4, .int x16), (0, .ref 55), (1, .int a0), (2, .int a1), (3, .int a2)]) (st' := [.int a2, .int ((3 * x16) + 2), .ref 78]) (h2 := (83, J21, R0 p)) (by rfl) ?_
                by_cases hb22 : inB ((3 * x16) + 2) 108 = true
                rotate_left
                · rw [if_neg hb22] at hg; cases hg
                rw [if_pos hb22] at hg
                refine TT_iast (n := 108) rfl (by rfl) hb22 ?_
                obtain ⟨J23, hJ23⟩ : ∃ x : IH, x = (up2 J21 78 (Int32.toNatClampNeg ((3 * x16) + 2)) a2) := ⟨_, rfl⟩
                replace hg := bnd_use hJ23 hg
                refine TT_go 0 (pc' := 81) (lv' := [(4, .int x16), (0, .ref 55), (1, .int a0), (2, .int a1), (3, .int a2)]) (st' := []) (h2 := (83, J23, R0 p)) (by subst hJ23; rfl) ?_
                obtain ⟨x24, hx24⟩ : ∃ x : Int32, x = (J23 77 0) := ⟨_, rfl⟩
                replace hg := bnd_use hx24 hg
                refine TT_go 5 (pc' := 88) (lv' := [(4, .int x16), (0, .ref 55), (1, .int a0), (2, .int a1), (3, .int a2)]) (st' := [.int x24, .int 0, .ref 77]) (h2 := (83, J23, R0 p)) (by subst hx24; rfl) ?_
                obtain ⟨J25, hJ25⟩ : ∃ x : IH, x = (up2 J23 77 0 (x24 + 1)) := ⟨_, rfl⟩
                replace hg := bnd_use hJ25 hg
                refine TT_go 3 (pc' := 91) (lv' := [(4, .int x16), (0, .ref 55), (1, .int a0), (2, .int a1), (3, .int a2)]) (st' := []) (h2 := (83, J25, R0 p)) (by subst hJ25; rfl) ?_
                obtain ⟨x26, hx26⟩ : ∃ x : Int32, x = (J25 77 0) := ⟨_, rfl⟩
                replace hg := bnd_use hx26 hg
                refine TT_go 4 (pc' := 97) (lv' := [(4, .int x16), (0, .ref 55), (1, .int a0), (2, .int a1), (3, .int a2)]) (st' := [.int x26]) (h2 := (83, J25, R0 p)) (by subst hx26; rfl) ?_
                have hg := Option.some.inj hg
                subst hg
                exact TT_ret rfl rfl
def g_X9_fewest_71 (n : Nat) (k5 : Int32 → Int32 → Int32 → IH → Option (Int32 × IH)) (v1 : Int32) (v4 : Int32) (t0 : Int32) (I : IH) : Option (Int32 × IH) :=
  bnd (v4 + 1) fun x10 =>
  k5 v1 t0 x10 I
set_option maxRecDepth 20000 in
theorem t_X9_fewest_71 {p : Nat} {n : Nat} {k5 : Int32 → Int32 → Int32 → IH → Option (Int32 × IH)} (hk5 : ∀ (v1 : Int32) (v3 : Int32) (v4 : Int32) (I : IH) (w : Int32 × IH), k5 v1 v3 v4 I = some w → TT none mt_X9_fewest 5 [(0, .ref 55), (1, .int v1), (3, .int v3), (4, .int v4)] [] (83, I, R0 p) (some (.int w.1)) (83, w.2, R0 p)) {v1 : Int32} {v4 : Int32} {t0 : Int32} {I : IH} {w : Int32 × IH} (hg : g_X9_fewest_71 n k5 v1 v4 t0 I = some w) : TT none mt_X9_fewest 71 [(0, .ref 55), (1, .int v1), (4, .int v4)] [.int t0] (83, I, R0 p) (some (.int w.1)) (83, w.2, R0 p) := by
  unfold g_X9_fewest_71 at hg
  obtain ⟨x10, hx10⟩ : ∃ x : Int32, x = (v4 + 1) := ⟨_, rfl⟩
  replace hg := bnd_use hx10 hg
  refine TT_go 2 (pc' := 75) (lv' := [(4, .int x10), (3, .int t0), (0, .ref 55), (1, .int v1)]) (st' := []) (h2 := (83, I, R0 p)) (by subst hx10; rfl) ?_
  refine TT_go 1 (pc' := 5) (lv' := [(4, .int x10), (3, .int t0), (0, .ref 55), (1, .int v1)]) (st' := []) (h2 := (83, I, R0 p)) (by rfl) ?_
  refine TT_sub (lv2 := [(0, .ref 55), (1, .int v1), (3, .int t0), (4, .int x10)]) rfl rfl ⟨rfl, rfl, rfl, rfl, trivial⟩ ?_
  exact hk5 v1 t0 x10 _ _ hg
def g_X9_fewest_49 (n : Nat) (k5 : Int32 → Int32 → Int32 → IH → Option (Int32 × IH)) (v1 : Int32) (v3 : Int32) (v4 : Int32) (t0 : Int32) (I : IH) : Option (Int32 × IH) :=
  if t0 = 0 then
    g_X9_fewest_71 n k5 v1 v4 v3 I
  else
    if inB ((3 * v4) + 2) 108 = true then
      bnd (I 78 (Int32.toNatClampNeg ((3 * v4) + 2))) fun x12 =>
      g_X9_fewest_71 n k5 v1 v4 x12 I
    else none
set_option maxRecDepth 20000 in
theorem t_X9_fewest_49 {p : Nat} {n : Nat} {k5 : Int32 → Int32 → Int32 → IH → Option (Int32 × IH)} (hk5 : ∀ (v1 : Int32) (v3 : Int32) (v4 : Int32) (I : IH) (w : Int32 × IH), k5 v1 v3 v4 I = some w → TT none mt_X9_fewest 5 [(0, .ref 55), (1, .int v1), (3, .int v3), (4, .int v4)] [] (83, I, R0 p) (some (.int w.1)) (83, w.2, R0 p)) {v1 : Int32} {v3 : Int32} {v4 : Int32} {t0 : Int32} {I : IH} {w : Int32 × IH} (hg : g_X9_fewest_49 n k5 v1 v3 v4 t0 I = some w) : TT none mt_X9_fewest 49 [(0, .ref 55), (1, .int v1), (3, .int v3), (4, .int v4)] [.int t0] (83, I, R0 p) (some (.int w.1)) (83, w.2, R0 p) := by
  unfold g_X9_fewest_49 at hg
  refine TT_go 2 (pc' := 53) (lv' := [(5, .int t0), (0, .ref 55), (1, .int v1), (3, .int v3), (4, .int v4)]) (st' := [.int t0]) (h2 := (83, I, R0 p)) (by rfl) ?_
  by_cases hc9 : t0 = 0
  · rw [if_pos hc9] at hg
    refine TT_zeq_t (t := 70) rfl rfl hc9 ?_
    refine TT_go 1 (pc' := 71) (lv' := [(5, .int t0), (0, .ref 55), (1, .int v1), (3, .int v3), (4, .int v4)]) (st' := [.int v3]) (h2 := (83, I, R0 p)) (by rfl) ?_
    refine TT_sub (lv2 := [(0, .ref 55), (1, .int v1), (4, .int v4)]) rfl rfl ⟨rfl, rfl, rfl, trivial⟩ ?_
    exact t_X9_fewest_71 hk5 hg
  · rw [if_neg hc9] at hg
    refine TT_zeq_f (t := 70) rfl rfl hc9 ?_
    refine TT_go 7 (pc' := 66) (lv' := [(5, .int t0), (0, .ref 55), (1, .int v1), (3, .int v3), (4, .int v4)]) (st' := [.int ((3 * v4) + 2), .ref 78]) (h2 := (83, I, R0 p)) (by rfl) ?_
    by_cases hb11 : inB ((3 * v4) + 2) 108 = true
    rotate_left
    · rw [if_neg hb11] at hg; cases hg
    rw [if_pos hb11] at hg
    refine TT_iald (n := 108) rfl (by rfl) hb11 ?_
    obtain ⟨x12, hx12⟩ : ∃ x : Int32, x = (I 78 (Int32.toNatClampNeg ((3 * v4) + 2))) := ⟨_, rfl⟩
    replace hg := bnd_use hx12 hg
    refine TT_go 0 (pc' := 67) (lv' := [(5, .int t0), (0, .ref 55), (1, .int v1), (3, .int v3), (4, .int v4)]) (st' := [.int x12]) (h2 := (83, I, R0 p)) (by subst hx12; rfl) ?_
    refine TT_go 1 (pc' := 71) (lv' := [(5, .int t0), (0, .ref 55), (1, .int v1), (3, .int v3), (4, .int v4)]) (st' := [.int x12]) (h2 := (83, I, R0 p)) (by rfl) ?_
    refine TT_sub (lv2 := [(0, .ref 55), (1, .int v1), (4, .int v4)]) rfl rfl ⟨rfl, rfl, rfl, trivial⟩ ?_
    exact t_X9_fewest_71 hk5 hg
def g_X9_fewest_48 (n : Nat) (k5 : Int32 → Int32 → Int32 → IH → Option (Int32 × IH)) (v1 : Int32) (v3 : Int32) (v4 : Int32) (I : IH) : Option (Int32 × IH) :=
  g_X9_fewest_49 n k5 v1 v3 v4 0 I
set_option maxRecDepth 20000 in
theorem t_X9_fewest_48 {p : Nat} {n : Nat} {k5 : Int32 → Int32 → Int32 → IH → Option (Int32 × IH)} (hk5 : ∀ (v1 : Int32) (v3 : Int32) (v4 : Int32) (I : IH) (w : Int32 × IH), k5 v1 v3 v4 I = some w → TT none mt_X9_fewest 5 [(0, .ref 55), (1, .int v1), (3, .int v3), (4, .int v4)] [] (83, I, R0 p) (some (.int w.1)) (83, w.2, R0 p)) {v1 : Int32} {v3 : Int32} {v4 : Int32} {I : IH} {w : Int32 × IH} (hg : g_X9_fewest_48 n k5 v1 v3 v4 I = some w) : TT none mt_X9_fewest 48 [(0, .ref 55), (1, .int v1), (3, .int v3), (4, .int v4)] [] (83, I, R0 p) (some (.int w.1)) (83, w.2, R0 p) := by
  unfold g_X9_fewest_48 at hg
  refine TT_go 1 (pc' := 49) (lv' := [(0, .ref 55), (1, .int v1), (3, .int v3), (4, .int v4)]) (st' := [.int 0]) (h2 := (83, I, R0 p)) (by rfl) ?_
  refine TT_sub (lv2 := [(0, .ref 55), (1, .int v1), (3, .int v3), (4, .int v4)]) rfl rfl ⟨rfl, rfl, rfl, rfl, trivial⟩ ?_
  exact t_X9_fewest_49 hk5 hg
def g_X9_fewest_5 : Nat → Int32 → Int32 → Int32 → IH → Option (Int32 × IH)
  | 0, _, _, _, _ => none
  | n + 1, v1, v3, v4, I =>
    bnd (I 77 0) fun x1 =>
    if x1 ≤ v4 then
      some (v3, I)
    else
      if inB (3 * v4) 108 = true then
        bnd (I 78 (Int32.toNatClampNeg (3 * v4))) fun x4 =>
        if x4 = v1 then
          if inB ((3 * v4) + 2) 108 = true then
            bnd (I 78 (Int32.toNatClampNeg ((3 * v4) + 2))) fun x7 =>
            if v3 ≤ x7 then
              g_X9_fewest_48 n (g_X9_fewest_5 n) v1 v3 v4 I
            else
              g_X9_fewest_49 n (g_X9_fewest_5 n) v1 v3 v4 1 I
          else none
        else
          g_X9_fewest_48 n (g_X9_fewest_5 n) v1 v3 v4 I
      else none
set_option maxRecDepth 20000 in
theorem t_X9_fewest_5 {p : Nat} : ∀ (n : Nat) (v1 : Int32) (v3 : Int32) (v4 : Int32) (I : IH) (w : Int32 × IH), g_X9_fewest_5 n v1 v3 v4 I = some w → TT none mt_X9_fewest 5 [(0, .ref 55), (1, .int v1), (3, .int v3), (4, .int v4)] [] (83, I, R0 p) (some (.int w.1)) (83, w.2, R0 p) := by
  intro n
  induction n with
  | zero => intro v1 v3 v4 I w hg; cases hg
  | succ n ih =>
    intro v1 v3 v4 I w hg
    unfold g_X9_fewest_5 at hg
    obtain ⟨x1, hx1⟩ : ∃ x : Int32, x = (I 77 0) := ⟨_, rfl⟩
    replace hg := bnd_use hx1 hg
    refine TT_go 5 (pc' := 13) (lv' := [(0, .ref 55), (1, .int v1), (3, .int v3), (4, .int v4)]) (st' := [.int x1, .int v4]) (h2 := (83, I, R0 p)) (by subst hx1; rfl) ?_
    by_cases hc2 : x1 ≤ v4
    · rw [if_pos hc2] at hg
      refine TT_ige_t (t := 78) rfl rfl hc2 ?_
      refine TT_go 1 (pc' := 79) (lv' := [(0, .ref 55), (1, .int v1), (3, .int v3), (4, .int v4)]) (st' := [.int v3]) (h2 := (83, I, R0 p)) (by rfl) ?_
      have hg := Option.some.inj hg
      subst hg
      exact TT_ret rfl rfl
    · rw [if_neg hc2] at hg
      refine TT_ige_f (t := 78) rfl rfl hc2 ?_
      refine TT_go 5 (pc' := 24) (lv' := [(0, .ref 55), (1, .int v1), (3, .int v3), (4, .int v4)]) (st' := [.int (3 * v4), .ref 78]) (h2 := (83, I, R0 p)) (by rfl) ?_
      by_cases hb3 : inB (3 * v4) 108 = true
      rotate_left
      · rw [if_neg hb3] at hg; cases hg
      rw [if_pos hb3] at hg
      refine TT_iald (n := 108) rfl (by rfl) hb3 ?_
      obtain ⟨x4, hx4⟩ : ∃ x : Int32, x = (I 78 (Int32.toNatClampNeg (3 * v4))) := ⟨_, rfl⟩
      replace hg := bnd_use hx4 hg
      refine TT_go 0 (pc' := 25) (lv' := [(0, .ref 55), (1, .int v1), (3, .int v3), (4, .int v4)]) (st' := [.int x4]) (h2 := (83, I, R0 p)) (by subst hx4; rfl) ?_
      refine TT_go 1 (pc' := 26) (lv' := [(0, .ref 55), (1, .int v1), (3, .int v3), (4, .int v4)]) (st' := [.int v1, .int x4]) (h2 := (83, I, R0 p)) (by rfl) ?_
      by_cases hc5 : x4 = v1
      · rw [if_pos hc5] at hg
        refine TT_ine_f (t := 48) rfl rfl hc5 ?_
        refine TT_go 7 (pc' := 39) (lv' := [(0, .ref 55), (1, .int v1), (3, .int v3), (4, .int v4)]) (st' := [.int ((3 * v4) + 2), .ref 78]) (h2 := (83, I, R0 p)) (by rfl) ?_
        by_cases hb6 : inB ((3 * v4) + 2) 108 = true
        rotate_left
        · rw [if_neg hb6] at hg; cases hg
        rw [if_pos hb6] at hg
        refine TT_iald (n := 108) rfl (by rfl) hb6 ?_
        obtain ⟨x7, hx7⟩ : ∃ x : Int32, x = (I 78 (Int32.toNatClampNeg ((3 * v4) + 2))) := ⟨_, rfl⟩
        replace hg := bnd_use hx7 hg
        refine TT_go 0 (pc' := 40) (lv' := [(0, .ref 55), (1, .int v1), (3, .int v3), (4, .int v4)]) (st' := [.int x7]) (h2 := (83, I, R0 p)) (by subst hx7; rfl) ?_
        refine TT_go 1 (pc' := 41) (lv' := [(0, .ref 55), (1, .int v1), (3, .int v3), (4, .int v4)]) (st' := [.int v3, .int x7]) (h2 := (83, I, R0 p)) (by rfl) ?_
        by_cases hc8 : v3 ≤ x7
        · rw [if_pos hc8] at hg
          refine TT_ige_t (t := 48) rfl rfl hc8 ?_
          refine TT_go 0 (pc' := 48) (lv' := [(0, .ref 55), (1, .int v1), (3, .int v3), (4, .int v4)]) (st' := []) (h2 := (83, I, R0 p)) (by rfl) ?_
          refine TT_sub (lv2 := [(0, .ref 55), (1, .int v1), (3, .int v3), (4, .int v4)]) rfl rfl ⟨rfl, rfl, rfl, rfl, trivial⟩ ?_
          exact t_X9_fewest_48 ih hg
        · rw [if_neg hc8] at hg
          refine TT_ige_f (t := 48) rfl rfl hc8 ?_
          refine TT_go 2 (pc' := 49) (lv' := [(0, .ref 55), (1, .int v1), (3, .int v3), (4, .int v4)]) (st' := [.int 1]) (h2 := (83, I, R0 p)) (by rfl) ?_
          refine TT_sub (lv2 := [(0, .ref 55), (1, .int v1), (3, .int v3), (4, .int v4)]) rfl rfl ⟨rfl, rfl, rfl, rfl, trivial⟩ ?_
          exact t_X9_fewest_49 ih hg
      · rw [if_neg hc5] at hg
        refine TT_ine_t (t := 48) rfl rfl hc5 ?_
        refine TT_go 0 (pc' := 48) (lv' := [(0, .ref 55), (1, .int v1), (3, .int v3), (4, .int v4)]) (st' := []) (h2 := (83, I, R0 p)) (by rfl) ?_
        refine TT_sub (lv2 := [(0, .ref 55), (1, .int v1), (3, .int v3), (4, .int v4)]) rfl rfl ⟨rfl, rfl, rfl, rfl, trivial⟩ ?_
        exact t_X9_fewest_48 ih hg
def g_X9_fewest (n : Nat) (a0 : Int32) (a1 : Int32) (I : IH) : Option (Int32 × IH) :=
  g_X9_fewest_5 n a0 a1 0 I
set_option maxRecDepth 20000 in
theorem t_X9_fewest {p : Nat} {n : Nat} {a0 : Int32} {a1 : Int32} {I : IH} {w : Int32 × IH} (hg : g_X9_fewest n a0 a1 I = some w) : TT none mt_X9_fewest 0 (lv_args 0 [.ref 55, .int a0, .int a1]) [] (83, I, R0 p) (some (.int w.1)) (83, w.2, R0 p) := by
  unfold g_X9_fewest at hg
  refine TT_go 4 (pc' := 5) (lv' := [(4, .int 0), (3, .int a1), (0, .ref 55), (1, .int a0), (2, .int a1)]) (st' := []) (h2 := (83, I, R0 p)) (by rfl) ?_
  refine TT_sub (lv2 := [(0, .ref 55), (1, .int a0), (3, .int a1), (4, .int 0)]) rfl rfl ⟨rfl, rfl, rfl, rfl, trivial⟩ ?_
  exact t_X9_fewest_5 n a0 a1 0 _ _ hg
def g_X9_till_91 (n : Nat) (k6 : Int32 → Int32 → Int32 → Int32 → IH → Option (Int32 × IH)) (v1 : Int32) (v2 : Int32) (v4 : Int32) (t0 : Int32) (I : IH) : Option (Int32 × IH) :=
  bnd (v4 + 1) fun x10 =>
  k6 v1 v2 t0 x10 I
set_option maxRecDepth 20000 in
theorem t_X9_till_91 {p : Nat} {n : Nat} {k6 : Int32 → Int32 → Int32 → Int32 → IH → Option (Int32 × IH)} (hk6 : ∀ (v1 : Int32) (v2 : Int32) (v3 : Int32) (v4 : Int32) (I : IH) (w : Int32 × IH), k6 v1 v2 v3 v4 I = some w → TT none mt_X9_till 6 [(0, .ref 55), (1, .int v1), (2, .int v2), (3, .int v3), (4, .int v4)] [] (83, I, R0 p) (some (.int w.1)) (83, w.2, R0 p)) {v1 : Int32} {v2 : Int32} {v4 : Int32} {t0 : Int32} {I : IH} {w : Int32 × IH} (hg : g_X9_till_91 n k6 v1 v2 v4 t0 I = some w) : TT none mt_X9_till 91 [(0, .ref 55), (1, .int v1), (2, .int v2), (4, .int v4)] [.int t0] (83, I, R0 p) (some (.int w.1)) (83, w.2, R0 p) := by
  unfold g_X9_till_91 at hg
  obtain ⟨x10, hx10⟩ : ∃ x : Int32, x = (v4 + 1) := ⟨_, rfl⟩
  replace hg := bnd_use hx10 hg
  refine TT_go 2 (pc' := 95) (lv' := [(4, .int x10), (3, .int t0), (0, .ref 55), (1, .int v1), (2, .int v2)]) (st' := []) (h2 := (83, I, R0 p)) (by subst hx10; rfl) ?_
  refine TT_go 1 (pc' := 6) (lv' := [(4, .int x10), (3, .int t0), (0, .ref 55), (1, .int v1), (2, .int v2)]) (st' := []) (h2 := (83, I, R0 p)) (by rfl) ?_
  refine TT_sub (lv2 := [(0, .ref 55), (1, .int v1), (2, .int v2), (3, .int t0), (4, .int x10)]) rfl rfl ⟨rfl, rfl, rfl, rfl, rfl, trivial⟩ ?_
  exact hk6 v1 v2 t0 x10 _ _ hg
def g_X9_till_90 (n : Nat) (k6 : Int32 → Int32 → Int32 → Int32 → IH → Option (Int32 × IH)) (v1 : Int32) (v2 : Int32) (v3 : Int32) (v4 : Int32) (I : IH) : Option (Int32 × IH) :=
  g_X9_till_91 n k6 v1 v2 v4 v3 I
set_option maxRecDepth 20000 in
theorem t_X9_till_90 {p : Nat} {n : Nat} {k6 : Int32 → Int32 → Int32 → Int32 → IH → Option (Int32 × IH)} (hk6 : ∀ (v1 : Int32) (v2 : Int32) (v3 : Int32) (v4 : Int32) (I : IH) (w : Int32 × IH), k6 v1 v2 v3 v4 I = some w → TT none mt_X9_till 6 [(0, .ref 55), (1, .int v1), (2, .int v2), (3, .int v3), (4, .int v4)] [] (83, I, R0 p) (some (.int w.1)) (83, w.2, R0 p)) {v1 : Int32} {v2 : Int32} {v3 : Int32} {v4 : Int32} {I : IH} {w : Int32 × IH} (hg : g_X9_till_90 n k6 v1 v2 v3 v4 I = some w) : TT none mt_X9_till 90 [(0, .ref 55), (1, .int v1), (2, .int v2), (3, .int v3), (4, .int v4)] [] (83, I, R0 p) (some (.int w.1)) (83, w.2, R0 p) := by
  unfold g_X9_till_90 at hg
  refine TT_go 1 (pc' := 91) (lv' := [(0, .ref 55), (1, .int v1), (2, .int v2), (3, .int v3), (4, .int v4)]) (st' := [.int v3]) (h2 := (83, I, R0 p)) (by rfl) ?_
  refine TT_sub (lv2 := [(0, .ref 55), (1, .int v1), (2, .int v2), (4, .int v4)]) rfl rfl ⟨rfl, rfl, rfl, rfl, trivial⟩ ?_
  exact t_X9_till_91 hk6 hg
def g_X9_till_76 (n : Nat) (k6 : Int32 → Int32 → Int32 → Int32 → IH → Option (Int32 × IH)) (v1 : Int32) (v2 : Int32) (v4 : Int32) (I : IH) : Option (Int32 × IH) :=
  if inB ((3 * v4) + 1) 108 = true then
    bnd (I 78 (Int32.toNatClampNeg ((3 * v4) + 1))) fun x13 =>
    g_X9_till_91 n k6 v1 v2 v4 x13 I
  else none
set_option maxRecDepth 20000 in
theorem t_X9_till_76 {p : Nat} {n : Nat} {k6 : Int32 → Int32 → Int32 → Int32 → IH → Option (Int32 × IH)} (hk6 : ∀ (v1 : Int32) (v2 : Int32) (v3 : Int32) (v4 : Int32) (I : IH) (w : Int32 × IH), k6 v1 v2 v3 v4 I = some w → TT none mt_X9_till 6 [(0, .ref 55), (1, .int v1), (2, .int v2), (3, .int v3), (4, .int v4)] [] (83, I, R0 p) (some (.int w.1)) (83, w.2, R0 p)) {v1 : Int32} {v2 : Int32} {v4 : Int32} {I : IH} {w : Int32 × IH} (hg : g_X9_till_76 n k6 v1 v2 v4 I = some w) : TT none mt_X9_till 76 [(0, .ref 55), (1, .int v1), (2, .int v2), (4, .int v4)] [] (83, I, R0 p) (some (.int w.1)) (83, w.2, R0 p) := by
  unfold g_X9_till_76 at hg
  refine TT_go 7 (pc' := 86) (lv' := [(0, .ref 55), (1, .int v1), (2, .int v2), (4, .int v4)]) (st' := [.int ((3 * v4) + 1), .ref 78]) (h2 := (83, I, R0 p)) (by rfl) ?_
  by_cases hb12 : inB ((3 * v4) + 1) 108 = true
  rotate_left
  · rw [if_neg hb12] at hg; cases hg
  rw [if_pos hb12] at hg
  refine TT_iald (n := 108) rfl (by rfl) hb12 ?_
  obtain ⟨x13, hx13⟩ : ∃ x : Int32, x = (I 78 (Int32.toNatClampNeg ((3 * v4) + 1))) := ⟨_, rfl⟩
  replace hg := bnd_use hx13 hg
  refine TT_go 0 (pc' := 87) (lv' := [(0, .ref 55), (1, .int v1), (2, .int v2), (4, .int v4)]) (st' := [.int x13]) (h2 := (83, I, R0 p)) (by subst hx13; rfl) ?_
  refine TT_go 1 (pc' := 91) (lv' := [(0, .ref 55), (1, .int v1), (2, .int v2), (4, .int v4)]) (st' := [.int x13]) (h2 := (83, I, R0 p)) (by rfl) ?_
  refine TT_sub (lv2 := [(0, .ref 55), (1, .int v1), (2, .int v2), (4, .int v4)]) rfl rfl ⟨rfl, rfl, rfl, rfl, trivial⟩ ?_
  exact t_X9_till_91 hk6 hg
def g_X9_till_50 (n : Nat) (k6 : Int32 → Int32 → Int32 → Int32 → IH → Option (Int32 × IH)) (v1 : Int32) (v2 : Int32) (v3 : Int32) (v4 : Int32) (t0 : Int32) (I : IH) : Option (Int32 × IH) :=
  if t0 = 0 then
    g_X9_till_90 n k6 v1 v2 v3 v4 I
  else
    if v3 < 0 then
      g_X9_till_76 n k6 v1 v2 v4 I
    else
      if inB ((3 * v4) + 1) 108 = true then
        bnd (I 78 (Int32.toNatClampNeg ((3 * v4) + 1))) fun x15 =>
        if v3 ≤ x15 then
          g_X9_till_90 n k6 v1 v2 v3 v4 I
        else
          g_X9_till_76 n k6 v1 v2 v4 I
      else none
set_option maxRecDepth 20000 in
theorem t_X9_till_50 {p : Nat} {n : Nat} {k6 : Int32 → Int32 → Int32 → Int32 → IH → Option (Int32 × IH)} (hk6 : ∀ (v1 : Int32) (v2 : Int32) (v3 : Int32) (v4 : Int32) (I : IH) (w : Int32 × IH), k6 v1 v2 v3 v4 I = some w → TT none mt_X9_till 6 [(0, .ref 55), (1, .int v1), (2, .int v2), (3, .int v3), (4, .int v4)] [] (83, I, R0 p) (some (.int w.1)) (83, w.2, R0 p)) {v1 : Int32} {v2 : Int32} {v3 : Int32} {v4 : Int32} {t0 : Int32} {I : IH} {w : Int32 × IH} (hg : g_X9_till_50 n k6 v1 v2 v3 v4 t0 I = some w) : TT none mt_X9_till 50 [(0, .ref 55), (1, .int v1), (2, .int v2), (3, .int v3), (4, .int v4)] [.int t0] (83, I, R0 p) (some (.int w.1)) (83, w.2, R0 p) := by
  unfold g_X9_till_50 at hg
  refine TT_go 2 (pc' := 54) (lv' := [(5, .int t0), (0, .ref 55), (1, .int v1), (2, .int v2), (3, .int v3), (4, .int v4)]) (st' := [.int t0]) (h2 := (83, I, R0 p)) (by rfl) ?_
  by_cases hc9 : t0 = 0
  · rw [if_pos hc9] at hg
    refine TT_zeq_t (t := 90) rfl rfl hc9 ?_
    refine TT_go 0 (pc' := 90) (lv' := [(5, .int t0), (0, .ref 55), (1, .int v1), (2, .int v2), (3, .int v3), (4, .int v4)]) (st' := []) (h2 := (83, I, R0 p)) (by rfl) ?_
    refine TT_sub (lv2 := [(0, .ref 55), (1, .int v1), (2, .int v2), (3, .int v3), (4, .int v4)]) rfl rfl ⟨rfl, rfl, rfl, rfl, rfl, trivial⟩ ?_
    exact t_X9_till_90 hk6 hg
  · rw [if_neg hc9] at hg
    refine TT_zeq_f (t := 90) rfl rfl hc9 ?_
    refine TT_go 1 (pc' := 58) (lv' := [(5, .int t0), (0, .ref 55), (1, .int v1), (2, .int v2), (3, .int v3), (4, .int v4)]) (st' := [.int v3]) (h2 := (83, I, R0 p)) (by rfl) ?_
    by_cases hc11 : v3 < 0
    · rw [if_pos hc11] at hg
      refine TT_zlt_t (t := 76) rfl rfl hc11 ?_
      refine TT_go 0 (pc' := 76) (lv' := [(5, .int t0), (0, .ref 55), (1, .int v1), (2, .int v2), (3, .int v3), (4, .int v4)]) (st' := []) (h2 := (83, I, R0 p)) (by rfl) ?_
      refine TT_sub (lv2 := [(0, .ref 55), (1, .int v1), (2, .int v2), (4, .int v4)]) rfl rfl ⟨rfl, rfl, rfl, rfl, trivial⟩ ?_
      exact t_X9_till_76 hk6 hg
    · rw [if_neg hc11] at hg
      refine TT_zlt_f (t := 76) rfl rfl hc11 ?_
      refine TT_go 7 (pc' := 71) (lv' := [(5, .int t0), (0, .ref 55), (1, .int v1), (2, .int v2), (3, .int v3), (4, .int v4)]) (st' := [.int ((3 * v4) + 1), .ref 78]) (h2 := (83, I, R0 p)) (by rfl) ?_
      by_cases hb14 : inB ((3 * v4) + 1) 108 = true
      rotate_left
      · rw [if_neg hb14] at hg; cases hg
      rw [if_pos hb14] at hg
      refine TT_iald (n := 108) rfl (by rfl) hb14 ?_
      obtain ⟨x15, hx15⟩ : ∃ x : Int32, x = (I 78 (Int32.toNatClampNeg ((3 * v4) + 1))) := ⟨_, rfl⟩
      replace hg := bnd_use hx15 hg
      refine TT_go 0 (pc' := 72) (lv' := [(5, .int t0), (0, .ref 55), (1, .int v1), (2, .int v2), (3, .int v3), (4, .int v4)]) (st' := [.int x15]) (h2 := (83, I, R0 p)) (by subst hx15; rfl) ?_
      refine TT_go 1 (pc' := 73) (lv' := [(5, .int t0), (0, .ref 55), (1, .int v1), (2, .int v2), (3, .int v3), (4, .int v4)]) (st' := [.int v3, .int x15]) (h2 := (83, I, R0 p)) (by rfl) ?_
      by_cases hc16 : v3 ≤ x15
      · rw [if_pos hc16] at hg
        refine TT_ige_t (t := 90) rfl rfl hc16 ?_
        refine TT_go 0 (pc' := 90) (lv' := [(5, .int t0), (0, .ref 55), (1, .int v1), (2, .int v2), (3, .int v3), (4, .int v4)]) (st' := []) (h2 := (83, I, R0 p)) (by rfl) ?_
        refine TT_sub (lv2 := [(0, .ref 55), (1, .int v1), (2, .int v2), (3, .int v3), (4, .int v4)]) rfl rfl ⟨rfl, rfl, rfl, rfl, rfl, trivial⟩ ?_
        exact t_X9_till_90 hk6 hg
      · rw [if_neg hc16] at hg
        refine TT_ige_f (t := 90) rfl rfl hc16 ?_
        refine TT_go 0 (pc' := 76) (lv' := [(5, .int t0), (0, .ref 55), (1, .int v1), (2, .int v2), (3, .int v3), (4, .int v4)]) (st' := []) (h2 := (83, I, R0 p)) (by rfl) ?_
        refine TT_sub (lv2 := [(0, .ref 55), (1, .int v1), (2, .int v2), (4, .int v4)]) rfl rfl ⟨rfl, rfl, rfl, rfl, trivial⟩ ?_
        exact t_X9_till_76 hk6 hg
def g_X9_till_49 (n : Nat) (k6 : Int32 → Int32 → Int32 → Int32 → IH → Option (Int32 × IH)) (v1 : Int32) (v2 : Int32) (v3 : Int32) (v4 : Int32) (I : IH) : Option (Int32 × IH) :=
  g_X9_till_50 n k6 v1 v2 v3 v4 0 I
set_option maxRecDepth 20000 in
theorem t_X9_till_49 {p : Nat} {n : Nat} {k6 : Int32 → Int32 → Int32 → Int32 → IH → Option (Int32 × IH)} (hk6 : ∀ (v1 : Int32) (v2 : Int32) (v3 : Int32) (v4 : Int32) (I : IH) (w : Int32 × IH), k6 v1 v2 v3 v4 I = some w → TT none mt_X9_till 6 [(0, .ref 55), (1, .int v1), (2, .int v2), (3, .int v3), (4, .int v4)] [] (83, I, R0 p) (some (.int w.1)) (83, w.2, R0 p)) {v1 : Int32} {v2 : Int32} {v3 : Int32} {v4 : Int32} {I : IH} {w : Int32 × IH} (hg : g_X9_till_49 n k6 v1 v2 v3 v4 I = some w) : TT none mt_X9_till 49 [(0, .ref 55), (1, .int v1), (2, .int v2), (3, .int v3), (4, .int v4)] [] (83, I, R0 p) (some (.int w.1)) (83, w.2, R0 p) := by
  unfold g_X9_till_49 at hg
  refine TT_go 1 (pc' := 50) (lv' := [(0, .ref 55), (1, .int v1), (2, .int v2), (3, .int v3), (4, .int v4)]) (st' := [.int 0]) (h2 := (83, I, R0 p)) (by rfl) ?_
  refine TT_sub (lv2 := [(0, .ref 55), (1, .int v1), (2, .int v2), (3, .int v3), (4, .int v4)]) rfl rfl ⟨rfl, rfl, rfl, rfl, rfl, trivial⟩ ?_
  exact t_X9_till_50 hk6 hg
def g_X9_till_6 : Nat → Int32 → Int32 → Int32 → Int32 → IH → Option (Int32 × IH)
  | 0, _, _, _, _, _ => none
  | n + 1, v1, v2, v3, v4, I =>
    bnd (I 77 0) fun x1 =>
    if x1 ≤ v4 then
      some (v3, I)
    else
      if inB (3 * v4) 108 = true then
        bnd (I 78 (Int32.toNatClampNeg (3 * v4))) fun x4 =>
        if x4 = v1 then
          if inB ((3 * v4) + 2) 108 = true then
            bnd (I 78 (Int32.toNatClampNeg ((3 * v4) + 2))) fun x7 =>
            if v2 ≤ x7 then
              g_X9_till_49 n (g_X9_till_6 n) v1 v2 v3 v4 I
            else
              g_X9_till_50 n (g_X9_till_6 n) v1 v2 v3 v4 1 I
          else none
        else
          g_X9_till_49 n (g_X9_till_6 n) v1 v2 v3 v4 I
      else none
set_option maxRecDepth 20000 in
theorem t_X9_till_6 {p : Nat} : ∀ (n : Nat) (v1 : Int32) (v2 : Int32) (v3 : Int32) (v4 : Int32) (I : IH) (w : Int32 × IH), g_X9_till_6 n v1 v2 v3 v4 I = some w → TT none mt_X9_till 6 [(0, .ref 55), (1, .int v1), (2, .int v2), (3, .int v3), (4, .int v4)] [] (83, I, R0 p) (some (.int w.1)) (83, w.2, R0 p) := by
  intro n
  induction n with
  | zero => intro v1 v2 v3 v4 I w hg; cases hg
  | succ n ih =>
    intro v1 v2 v3 v4 I w hg
    unfold g_X9_till_6 at hg
    obtain ⟨x1, hx1⟩ : ∃ x : Int32, x = (I 77 0) := ⟨_, rfl⟩
    replace hg := bnd_use hx1 hg
    refine TT_go 5 (pc' := 14) (lv' := [(0, .ref 55), (1, .int v1), (2, .int v2), (3, .int v3), (4, .int v4)]) (st' := [.int x1, .int v4]) (h2 := (83, I, R0 p)) (by subst hx1; rfl) ?_
    by_cases hc2 : x1 ≤ v4
    · rw [if_pos hc2] at hg
      refine TT_ige_t (t := 98) rfl rfl hc2 ?_
      refine TT_go 1 (pc' := 99) (lv' := [(0, .ref 55), (1, .int v1), (2, .int v2), (3, .int v3), (4, .int v4)]) (st' := [.int v3]) (h2 := (83, I, R0 p)) (by rfl) ?_
      have hg := Option.some.inj hg
      subst hg
      exact TT_ret rfl rfl
    · rw [if_neg hc2] at hg
      refine TT_ige_f (t := 98) rfl rfl hc2 ?_
      refine TT_go 5 (pc' := 25) (lv' := [(0, .ref 55), (1, .int v1), (2, .int v2), (3, .int v3), (4, .int v4)]) (st' := [.int (3 * v4), .ref 78]) (h2 := (83, I, R0 p)) (by rfl) ?_
      by_cases hb3 : inB (3 * v4) 108 = true
      rotate_left
      · rw [if_neg hb3] at hg; cases hg
      rw [if_pos hb3] at hg
      refine TT_iald (n := 108) rfl (by rfl) hb3 ?_
      obtain ⟨x4, hx4⟩ : ∃ x : Int32, x = (I 78 (Int32.toNatClampNeg (3 * v4))) := ⟨_, rfl⟩
      replace hg := bnd_use hx4 hg
      refine TT_go 0 (pc' := 26) (lv' := [(0, .ref 55), (1, .int v1), (2, .int v2), (3, .int v3), (4, .int v4)]) (st' := [.int x4]) (h2 := (83, I, R0 p)) (by subst hx4; rfl) ?_
      refine TT_go 1 (pc' := 27) (lv' := [(0, .ref 55), (1, .int v1), (2, .int v2), (3, .int v3), (4, .int v4)]) (st' := [.int v1, .int x4]) (h2 := (83, I, R0 p)) (by rfl) ?_
      by_cases hc5 : x4 = v1
      · rw [if_pos hc5] at hg
        refine TT_ine_f (t := 49) rfl rfl hc5 ?_
        refine TT_go 7 (pc' := 40) (lv' := [(0, .ref 55), (1, .int v1), (2, .int v2), (3, .int v3), (4, .int v4)]) (st' := [.int ((3 * v4) + 2), .ref 78]) (h2 := (83, I, R0 p)) (by rfl) ?_
        by_cases hb6 : inB ((3 * v4) + 2) 108 = true
        rotate_left
        · rw [if_neg hb6] at hg; cases hg
        rw [if_pos hb6] at hg
        refine TT_iald (n := 108) rfl (by rfl) hb6 ?_
        obtain ⟨x7, hx7⟩ : ∃ x : Int32, x = (I 78 (Int32.toNatClampNeg ((3 * v4) + 2))) := ⟨_, rfl⟩
        replace hg := bnd_use hx7 hg
        refine TT_go 0 (pc' := 41) (lv' := [(0, .ref 55), (1, .int v1), (2, .int v2), (3, .int v3), (4, .int v4)]) (st' := [.int x7]) (h2 := (83, I, R0 p)) (by subst hx7; rfl) ?_
        refine TT_go 1 (pc' := 42) (lv' := [(0, .ref 55), (1, .int v1), (2, .int v2), (3, .int v3), (4, .int v4)]) (st' := [.int v2, .int x7]) (h2 := (83, I, R0 p)) (by rfl) ?_
        by_cases hc8 : v2 ≤ x7
        · rw [if_pos hc8] at hg
          refine TT_ige_t (t := 49) rfl rfl hc8 ?_
          refine TT_go 0 (pc' := 49) (lv' := [(0, .ref 55), (1, .int v1), (2, .int v2), (3, .int v3), (4, .int v4)]) (st' := []) (h2 := (83, I, R0 p)) (by rfl) ?_
          refine TT_sub (lv2 := [(0, .ref 55), (1, .int v1), (2, .int v2), (3, .int v3), (4, .int v4)]) rfl rfl ⟨rfl, rfl, rfl, rfl, rfl, trivial⟩ ?_
          exact t_X9_till_49 ih hg
        · rw [if_neg hc8] at hg
          refine TT_ige_f (t := 49) rfl rfl hc8 ?_
          refine TT_go 2 (pc' := 50) (lv' := [(0, .ref 55), (1, .int v1), (2, .int v2), (3, .int v3), (4, .int v4)]) (st' := [.int 1]) (h2 := (83, I, R0 p)) (by rfl) ?_
          refine TT_sub (lv2 := [(0, .ref 55), (1, .int v1), (2, .int v2), (3, .int v3), (4, .int v4)]) rfl rfl ⟨rfl, rfl, rfl, rfl, rfl, trivial⟩ ?_
          exact t_X9_till_50 ih hg
      · rw [if_neg hc5] at hg
        refine TT_ine_t (t := 49) rfl rfl hc5 ?_
        refine TT_go 0 (pc' := 49) (lv' := [(0, .ref 55), (1, .int v1), (2, .int v2), (3, .int v3), (4, .int v4)]) (st' := []) (h2 := (83, I, R0 p)) (by rfl) ?_
        refine TT_sub (lv2 := [(0, .ref 55), (1, .int v1), (2, .int v2), (3, .int v3), (4, .int v4)]) rfl rfl ⟨rfl, rfl, rfl, rfl, rfl, trivial⟩ ?_
        exact t_X9_till_49 ih hg
def g_X9_till (n : Nat) (a0 : Int32) (a1 : Int32) (I : IH) : Option (Int32 × IH) :=
  g_X9_till_6 n a0 a1 ((-4)) 0 I
set_option maxRecDepth 20000 in
theorem t_X9_till {p : Nat} {n : Nat} {a0 : Int32} {a1 : Int32} {I : IH} {w : Int32 × IH} (hg : g_X9_till n a0 a1 I = some w) : TT none mt_X9_till 0 (lv_args 0 [.ref 55, .int a0, .int a1]) [] (83, I, R0 p) (some (.int w.1)) (83, w.2, R0 p) := by
  unfold g_X9_till at hg
  refine TT_go 4 (pc' := 6) (lv' := [(4, .int 0), (3, .int (-4)), (0, .ref 55), (1, .int a0), (2, .int a1)]) (st' := []) (h2 := (83, I, R0 p)) (by rfl) ?_
  refine TT_sub (lv2 := [(0, .ref 55), (1, .int a0), (2, .int a1), (3, .int (-4)), (4, .int 0)]) rfl rfl ⟨rfl, rfl, rfl, rfl, rfl, trivial⟩ ?_
  exact t_X9_till_6 n a0 a1 ((-4)) 0 _ _ hg
def g_X9_since_112 (n : Nat) (k14 : Int32 → Int32 → Int32 → Int32 → Int32 → IH → Option (Int32 × IH)) (v1 : Int32) (v2 : Int32) (v3 : Int32) (v5 : Int32) (t0 : Int32) (I : IH) : Option (Int32 × IH) :=
  bnd (v5 + 1) fun x14 =>
  k14 v1 v2 v3 t0 x14 I
set_option maxRecDepth 20000 in
theorem t_X9_since_112 {p : Nat} {n : Nat} {k14 : Int32 → Int32 → Int32 → Int32 → Int32 → IH → Option (Int32 × IH)} (hk14 : ∀ (v1 : Int32) (v2 : Int32) (v3 : Int32) (v4 : Int32) (v5 : Int32) (I : IH) (w : Int32 × IH), k14 v1 v2 v3 v4 v5 I = some w → TT none mt_X9_since 14 [(0, .ref 55), (1, .int v1), (2, .int v2), (3, .int v3), (4, .int v4), (5, .int v5)] [] (83, I, R0 p) (some (.int w.1)) (83, w.2, R0 p)) {v1 : Int32} {v2 : Int32} {v3 : Int32} {v5 : Int32} {t0 : Int32} {I : IH} {w : Int32 × IH} (hg : g_X9_since_112 n k14 v1 v2 v3 v5 t0 I = some w) : TT none mt_X9_since 112 [(0, .ref 55), (1, .int v1), (2, .int v2), (3, .int v3), (5, .int v5)] [.int t0] (83, I, R0 p) (some (.int w.1)) (83, w.2, R0 p) := by
  unfold g_X9_since_112 at hg
  obtain ⟨x14, hx14⟩ : ∃ x : Int32, x = (v5 + 1) := ⟨_, rfl⟩
  replace hg := bnd_use hx14 hg
  refine TT_go 2 (pc' := 117) (lv' := [(5, .int x14), (4, .int t0), (0, .ref 55), (1, .int v1), (2, .int v2), (3, .int v3)]) (st' := []) (h2 := (83, I, R0 p)) (by subst hx14; rfl) ?_
  refine TT_go 1 (pc' := 14) (lv' := [(5, .int x14), (4, .int t0), (0, .ref 55), (1, .int v1), (2, .int v2), (3, .int v3)]) (st' := []) (h2 := (83, I, R0 p)) (by rfl) ?_
  refine TT_sub (lv2 := [(0, .ref 55), (1, .int v1), (2, .int v2), (3, .int v3), (4, .int t0), (5, .int x14)]) rfl rfl ⟨rfl, rfl, rfl, rfl, rfl, rfl, trivial⟩ ?_
  exact hk14 v1 v2 v3 t0 x14 _ _ hg
def g_X9_since_110 (n : Nat) (k14 : Int32 → Int32 → Int32 → Int32 → Int32 → IH → Option (Int32 × IH)) (v1 : Int32) (v2 : Int32) (v3 : Int32) (v4 : Int32) (v5 : Int32) (I : IH) : Option (Int32 × IH) :=
  g_X9_since_112 n k14 v1 v2 v3 v5 v4 I
set_option maxRecDepth 20000 in
theorem t_X9_since_110 {p : Nat} {n : Nat} {k14 : Int32 → Int32 → Int32 → Int32 → Int32 → IH → Option (Int32 × IH)} (hk14 : ∀ (v1 : Int32) (v2 : Int32) (v3 : Int32) (v4 : Int32) (v5 : Int32) (I : IH) (w : Int32 × IH), k14 v1 v2 v3 v4 v5 I = some w → TT none mt_X9_since 14 [(0, .ref 55), (1, .int v1), (2, .int v2), (3, .int v3), (4, .int v4), (5, .int v5)] [] (83, I, R0 p) (some (.int w.1)) (83, w.2, R0 p)) {v1 : Int32} {v2 : Int32} {v3 : Int32} {v4 : Int32} {v5 : Int32} {I : IH} {w : Int32 × IH} (hg : g_X9_since_110 n k14 v1 v2 v3 v4 v5 I = some w) : TT none mt_X9_since 110 [(0, .ref 55), (1, .int v1), (2, .int v2), (3, .int v3), (4, .int v4), (5, .int v5)] [] (83, I, R0 p) (some (.int w.1)) (83, w.2, R0 p) := by
  unfold g_X9_since_110 at hg
  refine TT_go 1 (pc' := 112) (lv' := [(0, .ref 55), (1, .int v1), (2, .int v2), (3, .int v3), (4, .int v4), (5, .int v5)]) (st' := [.int v4]) (h2 := (83, I, R0 p)) (by rfl) ?_
  refine TT_sub (lv2 := [(0, .ref 55), (1, .int v1), (2, .int v2), (3, .int v3), (5, .int v5)]) rfl rfl ⟨rfl, rfl, rfl, rfl, rfl, trivial⟩ ?_
  exact t_X9_since_112 hk14 hg
def g_X9_since_73 (n : Nat) (k14 : Int32 → Int32 → Int32 → Int32 → Int32 → IH → Option (Int32 × IH)) (v1 : Int32) (v2 : Int32) (v3 : Int32) (v4 : Int32) (v5 : Int32) (t0 : Int32) (I : IH) : Option (Int32 × IH) :=
  if t0 = 0 then
    g_X9_since_110 n k14 v1 v2 v3 v4 v5 I
  else
    if inB ((3 * v5) + 1) 108 = true then
      bnd (I 78 (Int32.toNatClampNeg ((3 * v5) + 1))) fun x16 =>
      if x16 ≤ v4 then
        g_X9_since_110 n k14 v1 v2 v3 v4 v5 I
      else
        if inB ((3 * v5) + 1) 108 = true then
          bnd (I 78 (Int32.toNatClampNeg ((3 * v5) + 1))) fun x19 =>
          g_X9_since_112 n k14 v1 v2 v3 v5 x19 I
        else none
    else none
set_option maxRecDepth 20000 in
theorem t_X9_since_73 {p : Nat} {n : Nat} {k14 : Int32 → Int32 → Int32 → Int32 → Int32 → IH → Option (Int32 × IH)} (hk14 : ∀ (v1 : Int32) (v2 : Int32) (v3 : Int32) (v4 : Int32) (v5 : Int32) (I : IH) (w : Int32 × IH), k14 v1 v2 v3 v4 v5 I = some w → TT none mt_X9_since 14 [(0, .ref 55), (1, .int v1), (2, .int v2), (3, .int v3), (4, .int v4), (5, .int v5)] [] (83, I, R0 p) (some (.int w.1)) (83, w.2, R0 p)) {v1 : Int32} {v2 : Int32} {v3 : Int32} {v4 : Int32} {v5 : Int32} {t0 : Int32} {I : IH} {w : Int32 × IH} (hg : g_X9_since_73 n k14 v1 v2 v3 v4 v5 t0 I = some w) : TT none mt_X9_since 73 [(0, .ref 55), (1, .int v1), (2, .int v2), (3, .int v3), (4, .int v4), (5, .int v5)] [.int t0] (83, I, R0 p) (some (.int w.1)) (83, w.2, R0 p) := by
  unfold g_X9_since_73 at hg
  refine TT_go 2 (pc' := 77) (lv' := [(6, .int t0), (0, .ref 55), (1, .int v1), (2, .int v2), (3, .int v3), (4, .int v4), (5, .int v5)]) (st' := [.int t0]) (h2 := (83, I, R0 p)) (by rfl) ?_
  by_cases hc13 : t0 = 0
  · rw [if_pos hc13] at hg
    refine TT_zeq_t (t := 110) rfl rfl hc13 ?_
    refine TT_go 0 (pc' := 110) (lv' := [(6, .int t0), (0, .ref 55), (1, .int v1), (2, .int v2), (3, .int v3), (4, .int v4), (5, .int v5)]) (st' := []) (h2 := (83, I, R0 p)) (by rfl) ?_
    refine TT_sub (lv2 := [(0, .ref 55), (1, .int v1), (2, .int v2), (3, .int v3), (4, .int v4), (5, .int v5)]) rfl rfl ⟨rfl, rfl, rfl, rfl, rfl, rfl, trivial⟩ ?_
    exact t_X9_since_110 hk14 hg
  · rw [if_neg hc13] at hg
    refine TT_zeq_f (t := 110) rfl rfl hc13 ?_
    refine TT_go 7 (pc' := 90) (lv' := [(6, .int t0), (0, .ref 55), (1, .int v1), (2, .int v2), (3, .int v3), (4, .int v4), (5, .int v5)]) (st' := [.int ((3 * v5) + 1), .ref 78]) (h2 := (83, I, R0 p)) (by rfl) ?_
    by_cases hb15 : inB ((3 * v5) + 1) 108 = true
    rotate_left
    · rw [if_neg hb15] at hg; cases hg
    rw [if_pos hb15] at hg
    refine TT_iald (n := 108) rfl (by rfl) hb15 ?_
    obtain ⟨x16, hx16⟩ : ∃ x : Int32, x = (I 78 (Int32.toNatClampNeg ((3 * v5) + 1))) := ⟨_, rfl⟩
    replace hg := bnd_use hx16 hg
    refine TT_go 0 (pc' := 91) (lv' := [(6, .int t0), (0, .ref 55), (1, .int v1), (2, .int v2), (3, .int v3), (4, .int v4), (5, .int v5)]) (st' := [.int x16]) (h2 := (83, I, R0 p)) (by subst hx16; rfl) ?_
    refine TT_go 1 (pc' := 93) (lv' := [(6, .int t0), (0, .ref 55), (1, .int v1), (2, .int v2), (3, .int v3), (4, .int v4), (5, .int v5)]) (st' := [.int v4, .int x16]) (h2 := (83, I, R0 p)) (by rfl) ?_
    by_cases hc17 : x16 ≤ v4
    · rw [if_pos hc17] at hg
      refine TT_ile_t (t := 110) rfl rfl hc17 ?_
      refine TT_go 0 (pc' := 110) (lv' := [(6, .int t0), (0, .ref 55), (1, .int v1), (2, .int v2), (3, .int v3), (4, .int v4), (5, .int v5)]) (st' := []) (h2 := (83, I, R0 p)) (by rfl) ?_
      refine TT_sub (lv2 := [(0, .ref 55), (1, .int v1), (2, .int v2), (3, .int v3), (4, .int v4), (5, .int v5)]) rfl rfl ⟨rfl, rfl, rfl, rfl, rfl, rfl, trivial⟩ ?_
      exact t_X9_since_110 hk14 hg
    · rw [if_neg hc17] at hg
      refine TT_ile_f (t := 110) rfl rfl hc17 ?_
      refine TT_go 7 (pc' := 106) (lv' := [(6, .int t0), (0, .ref 55), (1, .int v1), (2, .int v2), (3, .int v3), (4, .int v4), (5, .int v5)]) (st' := [.int ((3 * v5) + 1), .ref 78]) (h2 := (83, I, R0 p)) (by rfl) ?_
      by_cases hb18 : inB ((3 * v5) + 1) 108 = true
      rotate_left
      · rw [if_neg hb18] at hg; cases hg
      rw [if_pos hb18] at hg
      refine TT_iald (n := 108) rfl (by rfl) hb18 ?_
      obtain ⟨x19, hx19⟩ : ∃ x : Int32, x = (I 78 (Int32.toNatClampNeg ((3 * v5) + 1))) := ⟨_, rfl⟩
      replace hg := bnd_use hx19 hg
      refine TT_go 0 (pc' := 107) (lv' := [(6, .int t0), (0, .ref 55), (1, .int v1), (2, .int v2), (3, .int v3), (4, .int v4), (5, .int v5)]) (st' := [.int x19]) (h2 := (83, I, R0 p)) (by subst hx19; rfl) ?_
      refine TT_go 1 (pc' := 112) (lv' := [(6, .int t0), (0, .ref 55), (1, .int v1), (2, .int v2), (3, .int v3), (4, .int v4), (5, .int v5)]) (st' := [.int x19]) (h2 := (83, I, R0 p)) (by rfl) ?_
      refine TT_sub (lv2 := [(0, .ref 55), (1, .int v1), (2, .int v2), (3, .int v3), (5, .int v5)]) rfl rfl ⟨rfl, rfl, rfl, rfl, rfl, trivial⟩ ?_
      exact t_X9_since_112 hk14 hg
def g_X9_since_72 (n : Nat) (k14 : Int32 → Int32 → Int32 → Int32 → Int32 → IH → Option (Int32 × IH)) (v1 : Int32) (v2 : Int32) (v3 : Int32) (v4 : Int32) (v5 : Int32) (I : IH) : Option (Int32 × IH) :=
  g_X9_since_73 n k14 v1 v2 v3 v4 v5 0 I
set_option maxRecDepth 20000 in
theorem t_X9_since_72 {p : Nat} {n : Nat} {k14 : Int32 → Int32 → Int32 → Int32 → Int32 → IH → Option (Int32 × IH)} (hk14 : ∀ (v1 : Int32) (v2 : Int32) (v3 : Int32) (v4 : Int32) (v5 : Int32) (I : IH) (w : Int32 × IH), k14 v1 v2 v3 v4 v5 I = some w → TT none mt_X9_since 14 [(0, .ref 55), (1, .int v1), (2, .int v2), (3, .int v3), (4, .int v4), (5, .int v5)] [] (83, I, R0 p) (some (.int w.1)) (83, w.2, R0 p)) {v1 : Int32} {v2 : Int32} {v3 : Int32} {v4 : Int32} {v5 : Int32} {I : IH} {w : Int32 × IH} (hg : g_X9_since_72 n k14 v1 v2 v3 v4 v5 I = some w) : TT none mt_X9_since 72 [(0, .ref 55), (1, .int v1), (2, .int v2), (3, .int v3), (4, .int v4), (5, .int v5)] [] (83, I, R0 p) (some (.int w.1)) (83, w.2, R0 p) := by
  unfold g_X9_since_72 at hg
  refine TT_go 1 (pc' := 73) (lv' := [(0, .ref 55), (1, .int v1), (2, .int v2), (3, .int v3), (4, .int v4), (5, .int v5)]) (st' := [.int 0]) (h2 := (83, I, R0 p)) (by rfl) ?_
  refine TT_sub (lv2 := [(0, .ref 55), (1, .int v1), (2, .int v2), (3, .int v3), (4, .int v4), (5, .int v5)]) rfl rfl ⟨rfl, rfl, rfl, rfl, rfl, rfl, trivial⟩ ?_
  exact t_X9_since_73 hk14 hg
def g_X9_since_14 : Nat → Int32 → Int32 → Int32 → Int32 → Int32 → IH → Option (Int32 × IH)
  | 0, _, _, _, _, _, _ => none
  | n + 1, v1, v2, v3, v4, v5, I =>
    bnd (I 77 0) fun x5 =>
    if x5 ≤ v5 then
      some (v4, I)
    else
      if inB (3 * v5) 108 = true then
        bnd (I 78 (Int32.toNatClampNeg (3 * v5))) fun x8 =>
        if x8 = v1 then
          if inB ((3 * v5) + 2) 108 = true then
            bnd (I 78 (Int32.toNatClampNeg ((3 * v5) + 2))) fun x11 =>
            if x11 < v2 then
              g_X9_since_72 n (g_X9_since_14 n) v1 v2 v3 v4 v5 I
            else
              if inB ((3 * v5) + 1) 108 = true then
                bnd (I 78 (Int32.toNatClampNeg ((3 * v5) + 1))) fun x21 =>
                if v3 ≤ x21 then
                  g_X9_since_72 n (g_X9_since_14 n) v1 v2 v3 v4 v5 I
                else
                  g_X9_since_73 n (g_X9_since_14 n) v1 v2 v3 v4 v5 1 I
              else none
          else none
        else
          g_X9_since_72 n (g_X9_since_14 n) v1 v2 v3 v4 v5 I
      else none
set_option maxRecDepth 20000 in
theorem t_X9_since_14 {p : Nat} : ∀ (n : Nat) (v1 : Int32) (v2 : Int32) (v3 : Int32) (v4 : Int32) (v5 : Int32) (I : IH) (w : Int32 × IH), g_X9_since_14 n v1 v2 v3 v4 v5 I = some w → TT none mt_X9_since 14 [(0, .ref 55), (1, .int v1), (2, .int v2), (3, .int v3), (4, .int v4), (5, .int v5)] [] (83, I, R0 p) (some (.int w.1)) (83, w.2, R0 p) := by
  intro n
  induction n with
  | zero => intro v1 v2 v3 v4 v5 I w hg; cases hg
  | succ n ih =>
    intro v1 v2 v3 v4 v5 I w hg
    unfold g_X9_since_14 at hg
    obtain ⟨x5, hx5⟩ : ∃ x : Int32, x = (I 77 0) := ⟨_, rfl⟩
    replace hg := bnd_use hx5 hg
    refine TT_go 5 (pc' := 22) (lv' := [(0, .ref 55), (1, .int v1), (2, .int v2), (3, .int v3), (4, .int v4), (5, .int v5)]) (st' := [.int x5, .int v5]) (h2 := (83, I, R0 p)) (by subst hx5; rfl) ?_
    by_cases hc6 : x5 ≤ v5
    · rw [if_pos hc6] at hg
      refine TT_ige_t (t := 120) rfl rfl hc6 ?_
      refine TT_go 1 (pc' := 122) (lv' := [(0, .ref 55), (1, .int v1), (2, .int v2), (3, .int v3), (4, .int v4), (5, .int v5)]) (st' := [.int v4]) (h2 := (83, I, R0 p)) (by rfl) ?_
      have hg := Option.some.inj hg
      subst hg
      exact TT_ret rfl rfl
    · rw [if_neg hc6] at hg
      refine TT_ige_f (t := 120) rfl rfl hc6 ?_
      refine TT_go 5 (pc' := 33) (lv' := [(0, .ref 55), (1, .int v1), (2, .int v2), (3, .int v3), (4, .int v4), (5, .int v5)]) (st' := [.int (3 * v5), .ref 78]) (h2 := (83, I, R0 p)) (by rfl) ?_
      by_cases hb7 : inB (3 * v5) 108 = true
      rotate_left
      · rw [if_neg hb7] at hg; cases hg
      rw [if_pos hb7] at hg
      refine TT_iald (n := 108) rfl (by rfl) hb7 ?_
      obtain ⟨x8, hx8⟩ : ∃ x : Int32, x = (I 78 (Int32.toNatClampNeg (3 * v5))) := ⟨_, rfl⟩
      replace hg := bnd_use hx8 hg
      refine TT_go 0 (pc' := 34) (lv' := [(0, .ref 55), (1, .int v1), (2, .int v2), (3, .int v3), (4, .int v4), (5, .int v5)]) (st' := [.int x8]) (h2 := (83, I, R0 p)) (by subst hx8; rfl) ?_
      refine TT_go 1 (pc' := 35) (lv' := [(0, .ref 55), (1, .int v1), (2, .int v2), (3, .int v3), (4, .int v4), (5, .int v5)]) (st' := [.int v1, .int x8]) (h2 := (83, I, R0 p)) (by rfl) ?_
      by_cases hc9 : x8 = v1
      · rw [if_pos hc9] at hg
        refine TT_ine_f (t := 72) rfl rfl hc9 ?_
        refine TT_go 7 (pc' := 48) (lv' := [(0, .ref 55), (1, .int v1), (2, .int v2), (3, .int v3), (4, .int v4), (5, .int v5)]) (st' := [.int ((3 * v5) + 2), .ref 78]) (h2 := (83, I, R0 p)) (by rfl) ?_
        by_cases hb10 : inB ((3 * v5) + 2) 108 = true
        rotate_left
        · rw [if_neg hb10] at hg; cases hg
        rw [if_pos hb10] at hg
        refine TT_iald (n := 108) rfl (by rfl) hb10 ?_
        obtain ⟨x11, hx11⟩ : ∃ x : Int32, x = (I 78 (Int32.toNatClampNeg ((3 * v5) + 2))) := ⟨_, rfl⟩
        replace hg := bnd_use hx11 hg
        refine TT_go 0 (pc' := 49) (lv' := [(0, .ref 55), (1, .int v1), (2, .int v2), (3, .int v3), (4, .int v4), (5, .int v5)]) (st' := [.int x11]) (h2 := (83, I, R0 p)) (by subst hx11; rfl) ?_
        refine TT_go 1 (pc' := 50) (lv' := [(0, .ref 55), (1, .int v1), (2, .int v2), (3, .int v3), (4, .int v4), (5, .int v5)]) (st' := [.int v2, .int x11]) (h2 := (83, I, R0 p)) (by rfl) ?_
        by_cases hc12 : x11 < v2
        · rw [if_pos hc12] at hg
          refine TT_ilt_t (t := 72) rfl rfl hc12 ?_
          refine TT_go 0 (pc' := 72) (lv' := [(0, .ref 55), (1, .int v1), (2, .int v2), (3, .int v3), (4, .int v4), (5, .int v5)]) (st' := []) (h2 := (83, I, R0 p)) (by rfl) ?_
          refine TT_sub (lv2 := [(0, .ref 55), (1, .int v1), (2, .int v2), (3, .int v3), (4, .int v4), (5, .int v5)]) rfl rfl ⟨rfl, rfl, rfl, rfl, rfl, rfl, trivial⟩ ?_
          exact t_X9_since_72 ih hg
        · rw [if_neg hc12] at hg
          refine TT_ilt_f (t := 72) rfl rfl hc12 ?_
          refine TT_go 7 (pc' := 63) (lv' := [(0, .ref 55), (1, .int v1), (2, .int v2), (3, .int v3), (4, .int v4), (5, .int v5)]) (st' := [.int ((3 * v5) + 1), .ref 78]) (h2 := (83, I, R0 p)) (by rfl) ?_
          by_cases hb20 : inB ((3 * v5) + 1) 108 = true
          rotate_left
          · rw [if_neg hb20] at hg; cases hg
          rw [if_pos hb20] at hg
          refine TT_iald (n := 108) rfl (by rfl) hb20 ?_
          obtain ⟨x21, hx21⟩ : ∃ x : Int32, x = (I 78 (Int32.toNatClampNeg ((3 * v5) + 1))) := ⟨_, rfl⟩
          replace hg := bnd_use hx21 hg
          refine TT_go 0 (pc' := 64) (lv' := [(0, .ref 55), (1, .int v1), (2, .int v2), (3, .int v3), (4, .int v4), (5, .int v5)]) (st' := [.int x21]) (h2 := (83, I, R0 p)) (by subst hx21; rfl) ?_
          refine TT_go 1 (pc' := 65) (lv' := [(0, .ref 55), (1, .int v1), (2, .int v2), (3, .int v3), (4, .int v4), (5, .int v5)]) (st' := [.int v3, .int x21]) (h2 := (83, I, R0 p)) (by rfl) ?_
          by_cases hc22 : v3 ≤ x21
          · rw [if_pos hc22] at hg
            refine TT_ige_t (t := 72) rfl rfl hc22 ?_
            refine TT_go 0 (pc' := 72) (lv' := [(0, .ref 55), (1, .int v1), (2, .int v2), (3, .int v3), (4, .int v4), (5, .int v5)]) (st' := []) (h2 := (83, I, R0 p)) (by rfl) ?_
            refine TT_sub (lv2 := [(0, .ref 55), (1, .int v1), (2, .int v2), (3, .int v3), (4, .int v4), (5, .int v5)]) rfl rfl ⟨rfl, rfl, rfl, rfl, rfl, rfl, trivial⟩ ?_
            exact t_X9_since_72 ih hg
          · rw [if_neg hc22] at hg
            refine TT_ige_f (t := 72) rfl rfl hc22 ?_
            refine TT_go 2 (pc' := 73) (lv' := [(0, .ref 55), (1, .int v1), (2, .int v2), (3, .int v3), (4, .int v4), (5, .int v5)]) (st' := [.int 1]) (h2 := (83, I, R0 p)) (by rfl) ?_
            refine TT_sub (lv2 := [(0, .ref 55), (1, .int v1), (2, .int v2), (3, .int v3), (4, .int v4), (5, .int v5)]) rfl rfl ⟨rfl, rfl, rfl, rfl, rfl, rfl, trivial⟩ ?_
            exact t_X9_since_73 ih hg
      · rw [if_neg hc9] at hg
        refine TT_ine_t (t := 72) rfl rfl hc9 ?_
        refine TT_go 0 (pc' := 72) (lv' := [(0, .ref 55), (1, .int v1), (2, .int v2), (3, .int v3), (4, .int v4), (5, .int v5)]) (st' := []) (h2 := (83, I, R0 p)) (by rfl) ?_
        refine TT_sub (lv2 := [(0, .ref 55), (1, .int v1), (2, .int v2), (3, .int v3), (4, .int v4), (5, .int v5)]) rfl rfl ⟨rfl, rfl, rfl, rfl, rfl, rfl, trivial⟩ ?_
        exact t_X9_since_72 ih hg
def g_X9_since (n : Nat) (a0 : Int32) (a1 : Int32) (I : IH) : Option (Int32 × IH) :=
  match g_X9_till n a0 a1 I with
  | none => none
  | some (r4, J3) =>
    g_X9_since_14 n a0 a1 r4 ((-4)) 0 J3
set_option maxRecDepth 20000 in
theorem t_X9_since {p : Nat} {n : Nat} {a0 : Int32} {a1 : Int32} {I : IH} {w : Int32 × IH} (hg : g_X9_since n a0 a1 I = some w) : TT none mt_X9_since 0 (lv_args 0 [.ref 55, .int a0, .int a1]) [] (83, I, R0 p) (some (.int w.1)) (83, w.2, R0 p) := by
  unfold g_X9_since at hg
  refine TT_go 3 (pc' := 3) (lv' := [(0, .ref 55), (1, .int a0), (2, .int a1)]) (st' := [.int a1, .int a0, .ref 55]) (h2 := (83, I, R0 p)) (by rfl) ?_
  cases hq1 : g_X9_till n a0 a1 I with
  | none => rw [hq1] at hg; cases hg
  | some w2 =>
    obtain ⟨r4, J3⟩ := w2
    rw [hq1] at hg
    dsimp only at hg
    refine TT_call (me' := mt_X9_till) (as := [.ref 55, .int a0, .int a1]) (rest := []) (r1 := some (.int r4)) (h1 := (83, J3, R0 p)) rfl rfl (by rfl) (t_X9_till hq1) ?_
    refine TT_go 5 (pc' := 14) (lv' := [(5, .int 0), (4, .int (-4)), (3, .int r4), (0, .ref 55), (1, .int a0), (2, .int a1)]) (st' := []) (h2 := (83, J3, R0 p)) (by rfl) ?_
    refine TT_sub (lv2 := [(0, .ref 55), (1, .int a0), (2, .int a1), (3, .int r4), (4, .int (-4)), (5, .int 0)]) rfl rfl ⟨rfl, rfl, rfl, rfl, rfl, rfl, trivial⟩ ?_
    exact t_X9_since_14 n a0 a1 r4 ((-4)) 0 _ _ hg
def g_X9_falseOnes_133 (n : Nat) (k4 : Int32 → Int32 → Int32 → IH → Option (Int32 × IH)) (v1 : Int32) (v3 : Int32) (t0 : Int32) (t1 : Int32) (I : IH) : Option (Int32 × IH) :=
  bnd ((t1 + t0)) fun x9 =>
  bnd (v3 + 1) fun x10 =>
  k4 v1 x9 x10 I
set_option maxRecDepth 20000 in
theorem t_X9_falseOnes_133 {p : Nat} {n : Nat} {k4 : Int32 → Int32 → Int32 → IH → Option (Int32 × IH)} (hk4 : ∀ (v1 : Int32) (v2 : Int32) (v3 : Int32) (I : IH) (w : Int32 × IH), k4 v1 v2 v3 I = some w → TT none mt_X9_falseOnes 4 [(0, .ref 55), (1, .int v1), (2, .int v2), (3, .int v3)] [] (83, I, R0 p) (some (.int w.1)) (83, w.2, R0 p)) {v1 : Int32} {v3 : Int32} {t0 : Int32} {t1 : Int32} {I : IH} {w : Int32 × IH} (hg : g_X9_falseOnes_133 n k4 v1 v3 t0 t1 I = some w) : TT none mt_X9_falseOnes 133 [(0, .ref 55), (1, .int v1), (3, .int v3)] [.int t0, .int t1] (83, I, R0 p) (some (.int w.1)) (83, w.2, R0 p) := by
  unfold g_X9_falseOnes_133 at hg
  obtain ⟨x9, hx9⟩ : ∃ x : Int32, x = ((t1 + t0)) := ⟨_, rfl⟩
  replace hg := bnd_use hx9 hg
  refine TT_go 2 (pc' := 135) (lv' := [(2, .int x9), (0, .ref 55), (1, .int v1), (3, .int v3)]) (st' := []) (h2 := (83, I, R0 p)) (by subst hx9; rfl) ?_
  obtain ⟨x10, hx10⟩ : ∃ x : Int32, x = (v3 + 1) := ⟨_, rfl⟩
  replace hg := bnd_use hx10 hg
  refine TT_go 1 (pc' := 138) (lv' := [(3, .int x10), (2, .int x9), (0, .ref 55), (1, .int v1)]) (st' := []) (h2 := (83, I, R0 p)) (by subst hx10; rfl) ?_
  refine TT_go 1 (pc' := 4) (lv' := [(3, .int x10), (2, .int x9), (0, .ref 55), (1, .int v1)]) (st' := []) (h2 := (83, I, R0 p)) (by rfl) ?_
  refine TT_sub (lv2 := [(0, .ref 55), (1, .int v1), (2, .int x9), (3, .int x10)]) rfl rfl ⟨rfl, rfl, rfl, rfl, trivial⟩ ?_
  exact hk4 v1 x9 x10 _ _ hg
def g_X9_falseOnes_132 (n : Nat) (k4 : Int32 → Int32 → Int32 → IH → Option (Int32 × IH)) (v1 : Int32) (v3 : Int32) (t0 : Int32) (I : IH) : Option (Int32 × IH) :=
  g_X9_falseOnes_133 n k4 v1 v3 0 t0 I
set_option maxRecDepth 20000 in
theorem t_X9_falseOnes_132 {p : Nat} {n : Nat} {k4 : Int32 → Int32 → Int32 → IH → Option (Int32 × IH)} (hk4 : ∀ (v1 : Int32) (v2 : Int32) (v3 : Int32) (I : IH) (w : Int32 × IH), k4 v1 v2 v3 I = some w → TT none mt_X9_falseOnes 4 [(0, .ref 55), (1, .int v1), (2, .int v2), (3, .int v3)] [] (83, I, R0 p) (some (.int w.1)) (83, w.2, R0 p)) {v1 : Int32} {v3 : Int32} {t0 : Int32} {I : IH} {w : Int32 × IH} (hg : g_X9_falseOnes_132 n k4 v1 v3 t0 I = some w) : TT none mt_X9_falseOnes 132 [(0, .ref 55), (1, .int v1), (3, .int v3)] [.int t0] (83, I, R0 p) (some (.int w.1)) (83, w.2, R0 p) := by
  unfold g_X9_falseOnes_132 at hg
  refine TT_go 1 (pc' := 133) (lv' := [(0, .ref 55), (1, .int v1), (3, .int v3)]) (st' := [.int 0, .int t0]) (h2 := (83, I, R0 p)) (by rfl) ?_
  refine TT_sub (lv2 := [(0, .ref 55), (1, .int v1), (3, .int v3)]) rfl rfl ⟨rfl, rfl, rfl, trivial⟩ ?_
  exact t_X9_falseOnes_133 hk4 hg
def g_X9_falseOnes_102 (n : Nat) (k4 : Int32 → Int32 → Int32 → IH → Option (Int32 × IH)) (k20 : Int32 → Int32 → Int32 → Int32 → Int32 → IH → Option (Int32 × IH)) (v1 : Int32) (v2 : Int32) (v3 : Int32) (v5 : Int32) (t0 : Int32) (I : IH) : Option (Int32 × IH) :=
  bnd (v5 + 1) fun x20 =>
  k20 v1 v2 v3 t0 x20 I
set_option maxRecDepth 20000 in
theorem t_X9_falseOnes_102 {p : Nat} {n : Nat} {k4 : Int32 → Int32 → Int32 → IH → Option (Int32 × IH)} {k20 : Int32 → Int32 → Int32 → Int32 → Int32 → IH → Option (Int32 × IH)} (hk4 : ∀ (v1 : Int32) (v2 : Int32) (v3 : Int32) (I : IH) (w : Int32 × IH), k4 v1 v2 v3 I = some w → TT none mt_X9_falseOnes 4 [(0, .ref 55), (1, .int v1), (2, .int v2), (3, .int v3)] [] (83, I, R0 p) (some (.int w.1)) (83, w.2, R0 p)) (hk20 : ∀ (v1 : Int32) (v2 : Int32) (v3 : Int32) (v4 : Int32) (v5 : Int32) (I : IH) (w : Int32 × IH), k20 v1 v2 v3 v4 v5 I = some w → TT none mt_X9_falseOnes 20 [(0, .ref 55), (1, .int v1), (2, .int v2), (3, .int v3), (4, .int v4), (5, .int v5)] [] (83, I, R0 p) (some (.int w.1)) (83, w.2, R0 p)) {v1 : Int32} {v2 : Int32} {v3 : Int32} {v5 : Int32} {t0 : Int32} {I : IH} {w : Int32 × IH} (hg : g_X9_falseOnes_102 n k4 k20 v1 v2 v3 v5 t0 I = some w) : TT none mt_X9_falseOnes 102 [(0, .ref 55), (1, .int v1), (2, .int v2), (3, .int v3), (5, .int v5)] [.int t0] (83, I, R0 p) (some (.int w.1)) (83, w.2, R0 p) := by
  unfold g_X9_falseOnes_102 at hg
  obtain ⟨x20, hx20⟩ : ∃ x : Int32, x = (v5 + 1) := ⟨_, rfl⟩
  replace hg := bnd_use hx20 hg
  refine TT_go 2 (pc' := 107) (lv' := [(5, .int x20), (4, .int t0), (0, .ref 55), (1, .int v1), (2, .int v2), (3, .int v3)]) (st' := []) (h2 := (83, I, R0 p)) (by subst hx20; rfl) ?_
  refine TT_go 1 (pc' := 20) (lv' := [(5, .int x20), (4, .int t0), (0, .ref 55), (1, .int v1), (2, .int v2), (3, .int v3)]) (st' := []) (h2 := (83, I, R0 p)) (by rfl) ?_
  refine TT_sub (lv2 := [(0, .ref 55), (1, .int v1), (2, .int v2), (3, .int v3), (4, .int t0), (5, .int x20)]) rfl rfl ⟨rfl, rfl, rfl, rfl, rfl, rfl, trivial⟩ ?_
  exact hk20 v1 v2 v3 t0 x20 _ _ hg
def g_X9_falseOnes_101 (n : Nat) (k4 : Int32 → Int32 → Int32 → IH → Option (Int32 × IH)) (k20 : Int32 → Int32 → Int32 → Int32 → Int32 → IH → Option (Int32 × IH)) (v1 : Int32) (v2 : Int32) (v3 : Int32) (v5 : Int32) (I : IH) : Option (Int32 × IH) :=
  g_X9_falseOnes_102 n k4 k20 v1 v2 v3 v5 0 I
set_option maxRecDepth 20000 in
theorem t_X9_falseOnes_101 {p : Nat} {n : Nat} {k4 : Int32 → Int32 → Int32 → IH → Option (Int32 × IH)} {k20 : Int32 → Int32 → Int32 → Int32 → Int32 → IH → Option (Int32 × IH)} (hk4 : ∀ (v1 : Int32) (v2 : Int32) (v3 : Int32) (I : IH) (w : Int32 × IH), k4 v1 v2 v3 I = some w → TT none mt_X9_falseOnes 4 [(0, .ref 55), (1, .int v1), (2, .int v2), (3, .int v3)] [] (83, I, R0 p) (some (.int w.1)) (83, w.2, R0 p)) (hk20 : ∀ (v1 : Int32) (v2 : Int32) (v3 : Int32) (v4 : Int32) (v5 : Int32) (I : IH) (w : Int32 × IH), k20 v1 v2 v3 v4 v5 I = some w → TT none mt_X9_falseOnes 20 [(0, .ref 55), (1, .int v1), (2, .int v2), (3, .int v3), (4, .int v4), (5, .int v5)] [] (83, I, R0 p) (some (.int w.1)) (83, w.2, R0 p)) {v1 : Int32} {v2 : Int32} {v3 : Int32} {v5 : Int32} {I : IH} {w : Int32 × IH} (hg : g_X9_falseOnes_101 n k4 k20 v1 v2 v3 v5 I = some w) : TT none mt_X9_falseOnes 101 [(0, .ref 55), (1, .int v1), (2, .int v2), (3, .int v3), (5, .int v5)] [] (83, I, R0 p) (some (.int w.1)) (83, w.2, R0 p) := by
  unfold g_X9_falseOnes_101 at hg
  refine TT_go 1 (pc' := 102) (lv' := [(0, .ref 55), (1, .int v1), (2, .int v2), (3, .int v3), (5, .int v5)]) (st' := [.int 0]) (h2 := (83, I, R0 p)) (by rfl) ?_
  refine TT_sub (lv2 := [(0, .ref 55), (1, .int v1), (2, .int v2), (3, .int v3), (5, .int v5)]) rfl rfl ⟨rfl, rfl, rfl, rfl, rfl, trivial⟩ ?_
  exact t_X9_falseOnes_102 hk4 hk20 hg
def g_X9_falseOnes_97 (n : Nat) (k4 : Int32 → Int32 → Int32 → IH → Option (Int32 × IH)) (k20 : Int32 → Int32 → Int32 → Int32 → Int32 → IH → Option (Int32 × IH)) (v1 : Int32) (v2 : Int32) (v3 : Int32) (v5 : Int32) (I : IH) : Option (Int32 × IH) :=
  g_X9_falseOnes_102 n k4 k20 v1 v2 v3 v5 1 I
set_option maxRecDepth 20000 in
theorem t_X9_falseOnes_97 {p : Nat} {n : Nat} {k4 : Int32 → Int32 → Int32 → IH → Option (Int32 × IH)} {k20 : Int32 → Int32 → Int32 → Int32 → Int32 → IH → Option (Int32 × IH)} (hk4 : ∀ (v1 : Int32) (v2 : Int32) (v3 : Int32) (I : IH) (w : Int32 × IH), k4 v1 v2 v3 I = some w → TT none mt_X9_falseOnes 4 [(0, .ref 55), (1, .int v1), (2, .int v2), (3, .int v3)] [] (83, I, R0 p) (some (.int w.1)) (83, w.2, R0 p)) (hk20 : ∀ (v1 : Int32) (v2 : Int32) (v3 : Int32) (v4 : Int32) (v5 : Int32) (I : IH) (w : Int32 × IH), k20 v1 v2 v3 v4 v5 I = some w → TT none mt_X9_falseOnes 20 [(0, .ref 55), (1, .int v1), (2, .int v2), (3, .int v3), (4, .int v4), (5, .int v5)] [] (83, I, R0 p) (some (.int w.1)) (83, w.2, R0 p)) {v1 : Int32} {v2 : Int32} {v3 : Int32} {v5 : Int32} {I : IH} {w : Int32 × IH} (hg : g_X9_falseOnes_97 n k4 k20 v1 v2 v3 v5 I = some w) : TT none mt_X9_falseOnes 97 [(0, .ref 55), (1, .int v1), (2, .int v2), (3, .int v3), (5, .int v5)] [] (83, I, R0 p) (some (.int w.1)) (83, w.2, R0 p) := by
  unfold g_X9_falseOnes_97 at hg
  refine TT_go 2 (pc' := 102) (lv' := [(0, .ref 55), (1, .int v1), (2, .int v2), (3, .int v3), (5, .int v5)]) (st' := [.int 1]) (h2 := (83, I, R0 p)) (by rfl) ?_
  refine TT_sub (lv2 := [(0, .ref 55), (1, .int v1), (2, .int v2), (3, .int v3), (5, .int v5)]) rfl rfl ⟨rfl, rfl, rfl, rfl, rfl, trivial⟩ ?_
  exact t_X9_falseOnes_102 hk4 hk20 hg
def g_X9_falseOnes_20 (k4 : Int32 → Int32 → Int32 → IH → Option (Int32 × IH)) : Nat → Int32 → Int32 → Int32 → Int32 → Int32 → IH → Option (Int32 × IH)
  | 0, _, _, _, _, _, _ => none
  | n + 1, v1, v2, v3, v4, v5, I =>
    bnd (I 77 0) fun x3 =>
    if x3 ≤ v5 then
      if inB (3 * v3) 108 = true then
        bnd (I 78 (Int32.toNatClampNeg (3 * v3))) fun x6 =>
        if x6 = v1 then
          if v4 = 0 then
            g_X9_falseOnes_132 n k4 v1 v3 v2 I
          else
            g_X9_falseOnes_133 n k4 v1 v3 1 v2 I
        else
          g_X9_falseOnes_132 n k4 v1 v3 v2 I
      else none
    else
      if v4 = 0 then
        if inB (3 * v5) 108 = true then
          bnd (I 78 (Int32.toNatClampNeg (3 * v5))) fun x13 =>
          if x13 = v1 then
            if inB ((3 * v5) + 1) 108 = true then
              bnd (I 78 (Int32.toNatClampNeg ((3 * v5) + 1))) fun x16 =>
              if inB ((3 * v3) + 1) 108 = true then
                bnd (I 78 (Int32.toNatClampNeg ((3 * v3) + 1))) fun x18 =>
                if x18 ≤ x16 then
                  g_X9_falseOnes_101 n k4 (g_X9_falseOnes_20 k4 n) v1 v2 v3 v5 I
                else
                  if inB ((3 * v5) + 2) 108 = true then
                    bnd (I 78 (Int32.toNatClampNeg ((3 * v5) + 2))) fun x22 =>
                    if inB ((3 * v3) + 2) 108 = true then
                      bnd (I 78 (Int32.toNatClampNeg ((3 * v3) + 2))) fun x24 =>
                      if x24 ≤ x22 then
                        g_X9_falseOnes_101 n k4 (g_X9_falseOnes_20 k4 n) v1 v2 v3 v5 I
                      else
                        g_X9_falseOnes_97 n k4 (g_X9_falseOnes_20 k4 n) v1 v2 v3 v5 I
                    else none
                  else none
              else none
            else none
          else
            g_X9_falseOnes_101 n k4 (g_X9_falseOnes_20 k4 n) v1 v2 v3 v5 I
        else none
      else
        g_X9_falseOnes_97 n k4 (g_X9_falseOnes_20 k4 n) v1 v2 v3 v5 I
set_option maxRecDepth 20000 in
theorem t_X9_falseOnes_20 {p : Nat} {k4 : Int32 → Int32 → Int32 → IH → Option (Int32 × IH)} (hk4 : ∀ (v1 : Int32) (v2 : Int32) (v3 : Int32) (I : IH) (w : Int32 × IH), k4 v1 v2 v3 I = some w → TT none mt_X9_falseOnes 4 [(0, .ref 55), (1, .int v1), (2, .int v2), (3, .int v3)] [] (83, I, R0 p) (some (.int w.1)) (83, w.2, R0 p)) : ∀ (n : Nat) (v1 : Int32) (v2 : Int32) (v3 : Int32) (v4 : Int32) (v5 : Int32) (I : IH) (w : Int32 × IH), g_X9_falseOnes_20 k4 n v1 v2 v3 v4 v5 I = some w → TT none mt_X9_falseOnes 20 [(0, .ref 55), (1, .int v1), (2, .int v2), (3, .int v3), (4, .int v4), (5, .int v5)] [] (83, I, R0 p) (some (.int w.1)) (83, w.2, R0 p) := by
  intro n
  induction n with
  | zero => intro v1 v2 v3 v4 v5 I w hg; cases hg
  | succ n ih =>
    intro v1 v2 v3 v4 v5 I w hg
    unfold g_X9_falseOnes_20 at hg
    obtain ⟨x3, hx3⟩ : ∃ x : Int32, x = (I 77 0) := ⟨_, rfl⟩
    replace hg := bnd_use hx3 hg
    refine TT_go 5 (pc' := 28) (lv' := [(0, .ref 55), (1, .int v1), (2, .int v2), (3, .int v3), (4, .int v4), (5, .int v5)]) (st' := [.int x3, .int v5]) (h2 := (83, I, R0 p)) (by subst hx3; rfl) ?_
    by_cases hc4 : x3 ≤ v5
    · rw [if_pos hc4] at hg
      refine TT_ige_t (t := 110) rfl rfl hc4 ?_
      refine TT_go 6 (pc' := 118) (lv' := [(0, .ref 55), (1, .int v1), (2, .int v2), (3, .int v3), (4, .int v4), (5, .int v5)]) (st' := [.int (3 * v3), .ref 78, .int v2]) (h2 := (83, I, R0 p)) (by rfl) ?_
      by_cases hb5 : inB (3 * v3) 108 = true
      rotate_left
      · rw [if_neg hb5] at hg; cases hg
      rw [if_pos hb5] at hg
      refine TT_iald (n := 108) rfl (by rfl) hb5 ?_
      obtain ⟨x6, hx6⟩ : ∃ x : Int32, x = (I 78 (Int32.toNatClampNeg (3 * v3))) := ⟨_, rfl⟩
      replace hg := bnd_use hx6 hg
      refine TT_go 0 (pc' := 119) (lv' := [(0, .ref 55), (1, .int v1), (2, .int v2), (3, .int v3), (4, .int v4), (5, .int v5)]) (st' := [.int x6, .int v2]) (h2 := (83, I, R0 p)) (by subst hx6; rfl) ?_
      refine TT_go 1 (pc' := 120) (lv' := [(0, .ref 55), (1, .int v1), (2, .int v2), (3, .int v3), (4, .int v4), (5, .int v5)]) (st' := [.int v1, .int x6, .int v2]) (h2 := (83, I, R0 p)) (by rfl) ?_
      by_cases hc7 : x6 = v1
      · rw [if_pos hc7] at hg
        refine TT_ine_f (t := 132) rfl rfl hc7 ?_
        refine TT_go 1 (pc' := 125) (lv' := [(0, .ref 55), (1, .int v1), (2, .int v2), (3, .int v3), (4, .int v4), (5, .int v5)]) (st' := [.int v4, .int v2]) (h2 := (83, I, R0 p)) (by rfl) ?_
        by_cases hc8 : v4 = 0
        · rw [if_pos hc8] at hg
          refine TT_zeq_t (t := 132) rfl rfl hc8 ?_
          refine TT_go 0 (pc' := 132) (lv' := [(0, .ref 55), (1, .int v1), (2, .int v2), (3, .int v3), (4, .int v4), (5, .int v5)]) (st' := [.int v2]) (h2 := (83, I, R0 p)) (by rfl) ?_
          refine TT_sub (lv2 := [(0, .ref 55), (1, .int v1), (3, .int v3)]) rfl rfl ⟨rfl, rfl, rfl, trivial⟩ ?_
          exact t_X9_falseOnes_132 hk4 hg
        · rw [if_neg hc8] at hg
          refine TT_zeq_f (t := 132) rfl rfl hc8 ?_
          refine TT_go 2 (pc' := 133) (lv' := [(0, .ref 55), (1, .int v1), (2, .int v2), (3, .int v3), (4, .int v4), (5, .int v5)]) (st' := [.int 1, .int v2]) (h2 := (83, I, R0 p)) (by rfl) ?_
          refine TT_sub (lv2 := [(0, .ref 55), (1, .int v1), (3, .int v3)]) rfl rfl ⟨rfl, rfl, rfl, trivial⟩ ?_
          exact t_X9_falseOnes_133 hk4 hg
      · rw [if_neg hc7] at hg
        refine TT_ine_t (t := 132) rfl rfl hc7 ?_
        refine TT_go 0 (pc' := 132) (lv' := [(0, .ref 55), (1, .int v1), (2, .int v2), (3, .int v3), (4, .int v4), (5, .int v5)]) (st' := [.int v2]) (h2 := (83, I, R0 p)) (by rfl) ?_
        refine TT_sub (lv2 := [(0, .ref 55), (1, .int v1), (3, .int v3)]) rfl rfl ⟨rfl, rfl, rfl, trivial⟩ ?_
        exact t_X9_falseOnes_132 hk4 hg
    · rw [if_neg hc4] at hg
      refine TT_ige_f (t := 110) rfl rfl hc4 ?_
      refine TT_go 1 (pc' := 33) (lv' := [(0, .ref 55), (1, .int v1), (2, .int v2), (3, .int v3), (4, .int v4), (5, .int v5)]) (st' := [.int v4]) (h2 := (83, I, R0 p)) (by rfl) ?_
      by_cases hc11 : v4 = 0
      · rw [if_pos hc11] at hg
        refine TT_zne_f (t := 97) rfl rfl hc11 ?_
        refine TT_go 5 (pc' := 44) (lv' := [(0, .ref 55), (1, .int v1), (2, .int v2), (3, .int v3), (4, .int v4), (5, .int v5)]) (st' := [.int (3 * v5), .ref 78]) (h2 := (83, I, R0 p)) (by rfl) ?_
        by_cases hb12 : inB (3 * v5) 108 = true
        rotate_left
        · rw [if_neg hb12] at hg; cases hg
        rw [if_pos hb12] at hg
        refine TT_iald (n := 108) rfl (by rfl) hb12 ?_
        obtain ⟨x13, hx13⟩ : ∃ x : Int32, x = (I 78 (Int32.toNatClampNeg (3 * v5))) := ⟨_, rfl⟩
        replace hg := bnd_use hx13 hg
        refine TT_go 0 (pc' := 45) (lv' := [(0, .ref 55), (1, .int v1), (2, .int v2), (3, .int v3), (4, .int v4), (5, .int v5)]) (st' := [.int x13]) (h2 := (83, I, R0 p)) (by subst hx13; rfl) ?_
        refine TT_go 1 (pc' := 46) (lv' := [(0, .ref 55), (1, .int v1), (2, .int v2), (3, .int v3), (4, .int v4), (5, .int v5)]) (st' := [.int v1, .int x13]) (h2 := (83, I, R0 p)) (by rfl) ?_
        by_cases hc14 : x13 = v1
        · rw [if_pos hc14] at hg
          refine TT_ine_f (t := 101) rfl rfl hc14 ?_
          refine TT_go 7 (pc' := 59) (lv' := [(0, .ref 55), (1, .int v1), (2, .int v2), (3, .int v3), (4, .int v4), (5, .int v5)]) (st' := [.int ((3 * v5) + 1), .ref 78]) (h2 := (83, I, R0 p)) (by rfl) ?_
          by_cases hb15 : inB ((3 * v5) + 1) 108 = true
          rotate_left
          · rw [if_neg hb15] at hg; cases hg
          rw [if_pos hb15] at hg
          refine TT_iald (n := 108) rfl (by rfl) hb15 ?_
          obtain ⟨x16, hx16⟩ : ∃ x : Int32, x = (I 78 (Int32.toNatClampNeg ((3 * v5) + 1))) := ⟨_, rfl⟩
          replace hg := bnd_use hx16 hg
          refine TT_go 0 (pc' := 60) (lv' := [(0, .ref 55), (1, .int v1), (2, .int v2), (3, .int v3), (4, .int v4), (5, .int v5)]) (st' := [.int x16]) (h2 := (83, I, R0 p)) (by subst hx16; rfl) ?_
          refine TT_go 7 (pc' := 69) (lv' := [(0, .ref 55), (1, .int v1), (2, .int v2), (3, .int v3), (4, .int v4), (5, .int v5)]) (st' := [.int ((3 * v3) + 1), .ref 78, .int x16]) (h2 := (83, I, R0 p)) (by rfl) ?_
          by_cases hb17 : inB ((3 * v3) + 1) 108 = true
          rotate_left
          · rw [if_neg hb17] at hg; cases hg
          rw [if_pos hb17] at hg
          refine TT_iald (n := 108) rfl (by rfl) hb17 ?_
          obtain ⟨x18, hx18⟩ : ∃ x : Int32, x = (I 78 (Int32.toNatClampNeg ((3 * v3) + 1))) := ⟨_, rfl⟩
          replace hg := bnd_use hx18 hg
          refine TT_go 0 (pc' := 70) (lv' := [(0, .ref 55), (1, .int v1), (2, .int v2), (3, .int v3), (4, .int v4), (5, .int v5)]) (st' := [.int x18, .int x16]) (h2 := (83, I, R0 p)) (by subst hx18; rfl) ?_
          by_cases hc19 : x18 ≤ x16
          · rw [if_pos hc19] at hg
            refine TT_ige_t (t := 101) rfl rfl hc19 ?_
            refine TT_go 0 (pc' := 101) (lv' := [(0, .ref 55), (1, .int v1), (2, .int v2), (3, .int v3), (4, .int v4), (5, .int v5)]) (st' := []) (h2 := (83, I, R0 p)) (by rfl) ?_
            refine TT_sub (lv2 := [(0, .ref 55), (1, .int v1), (2, .int v2), (3, .int v3), (5, .int v5)]) rfl rfl ⟨rfl, rfl, rfl, rfl, rfl, trivial⟩ ?_
            exact t_X9_falseOnes_101 hk4 ih hg
          · rw [if_neg hc19] at hg
            refine TT_ige_f (t := 101) rfl rfl hc19 ?_
            refine TT_go 7 (pc' := 83) (lv' := [(0, .ref 55), (1, .int v1), (2, .int v2), (3, .int v3), (4, .int v4), (5, .int v5)]) (st' := [.int ((3 * v5) + 2), .ref 78]) (h2 := (83, I, R0 p)) (by rfl) ?_
            by_cases hb21 : inB ((3 * v5) + 2) 108 = true
            rotate_left
            · rw [if_neg hb21] at hg; cases hg
            rw [if_pos hb21] at hg
            refine TT_iald (n := 108) rfl (by rfl) hb21 ?_
            obtain ⟨x22, hx22⟩ : ∃ x : Int32, x = (I 78 (Int32.toNatClampNeg ((3 * v5) + 2))) := ⟨_, rfl⟩
            replace hg := bnd_use hx22 hg
            refine TT_go 0 (pc' := 84) (lv' := [(0, .ref 55), (1, .int v1), (2, .int v2), (3, .int v3), (4, .int v4), (5, .int v5)]) (st' := [.int x22]) (h2 := (83, I, R0 p)) (by subst hx22; rfl) ?_
            refine TT_go 7 (pc' := 93) (lv' := [(0, .ref 55), (1, .int v1), (2, .int v2), (3, .int v3), (4, .int v4), (5, .int v5)]) (st' := [.int ((3 * v3) + 2), .ref 78, .int x22]) (h2 := (83, I, R0 p)) (by rfl) ?_
            by_cases hb23 : inB ((3 * v3) + 2) 108 = true
            rotate_left
            · rw [if_neg hb23] at hg; cases hg
            rw [if_pos hb23] at hg
            refine TT_iald (n := 108) rfl (by rfl) hb23 ?_
            obtain ⟨x24, hx24⟩ : ∃ x : Int32, x = (I 78 (Int32.toNatClampNeg ((3 * v3) + 2))) := ⟨_, rfl⟩
            replace hg := bnd_use hx24 hg
            refine TT_go 0 (pc' := 94) (lv' := [(0, .ref 55), (1, .int v1), (2, .int v2), (3, .int v3), (4, .int v4), (5, .int v5)]) (st' := [.int x24, .int x22]) (h2 := (83, I, R0 p)) (by subst hx24; rfl) ?_
            by_cases hc25 : x24 ≤ x22
            · rw [if_pos hc25] at hg
              refine TT_ige_t (t := 101) rfl rfl hc25 ?_
              refine TT_go 0 (pc' := 101) (lv' := [(0, .ref 55), (1, .int v1), (2, .int v2), (3, .int v3), (4, .int v4), (5, .int v5)]) (st' := []) (h2 := (83, I, R0 p)) (by rfl) ?_
              refine TT_sub (lv2 := [(0, .ref 55), (1, .int v1), (2, .int v2), (3, .int v3), (5, .int v5)]) rfl rfl ⟨rfl, rfl, rfl, rfl, rfl, trivial⟩ ?_
              exact t_X9_falseOnes_101 hk4 ih hg
            · rw [if_neg hc25] at hg
              refine TT_ige_f (t := 101) rfl rfl hc25 ?_
              refine TT_go 0 (pc' := 97) (lv' := [(0, .ref 55), (1, .int v1), (2, .int v2), (3, .int v3), (4, .int v4), (5, .int v5)]) (st' := []) (h2 := (83, I, R0 p)) (by rfl) ?_
              refine TT_sub (lv2 := [(0, .ref 55), (1, .int v1), (2, .int v2), (3, .int v3), (5, .int v5)]) rfl rfl ⟨rfl, rfl, rfl, rfl, rfl, trivial⟩ ?_
              exact t_X9_falseOnes_97 hk4 ih hg
        · rw [if_neg hc14] at hg
          refine TT_ine_t (t := 101) rfl rfl hc14 ?_
          refine TT_go 0 (pc' := 101) (lv' := [(0, .ref 55), (1, .int v1), (2, .int v2), (3, .int v3), (4, .int v4), (5, .int v5)]) (st' := []) (h2 := (83, I, R0 p)) (by rfl) ?_
          refine TT_sub (lv2 := [(0, .ref 55), (1, .int v1), (2, .int v2), (3, .int v3), (5, .int v5)]) rfl rfl ⟨rfl, rfl, rfl, rfl, rfl, trivial⟩ ?_
          exact t_X9_falseOnes_101 hk4 ih hg
      · rw [if_neg hc11] at hg
        refine TT_zne_t (t := 97) rfl rfl hc11 ?_
        refine TT_go 0 (pc' := 97) (lv' := [(0, .ref 55), (1, .int v1), (2, .int v2), (3, .int v3), (4, .int v4), (5, .int v5)]) (st' := []) (h2 := (83, I, R0 p)) (by rfl) ?_
        refine TT_sub (lv2 := [(0, .ref 55), (1, .int v1), (2, .int v2), (3, .int v3), (5, .int v5)]) rfl rfl ⟨rfl, rfl, rfl, rfl, rfl, trivial⟩ ?_
        exact t_X9_falseOnes_97 hk4 ih hg
def g_X9_falseOnes_4 : Nat → Int32 → Int32 → Int32 → IH → Option (Int32 × IH)
  | 0, _, _, _, _ => none
  | n + 1, v1, v2, v3, I =>
    bnd (I 77 0) fun x1 =>
    if x1 ≤ v3 then
      some (v2, I)
    else
      g_X9_falseOnes_20 (g_X9_falseOnes_4 n) n v1 v2 v3 0 0 I
set_option maxRecDepth 20000 in
theorem t_X9_falseOnes_4 {p : Nat} : ∀ (n : Nat) (v1 : Int32) (v2 : Int32) (v3 : Int32) (I : IH) (w : Int32 × IH), g_X9_falseOnes_4 n v1 v2 v3 I = some w → TT none mt_X9_falseOnes 4 [(0, .ref 55), (1, .int v1), (2, .int v2), (3, .int v3)] [] (83, I, R0 p) (some (.int w.1)) (83, w.2, R0 p) := by
  intro n
  induction n with
  | zero => intro v1 v2 v3 I w hg; cases hg
  | succ n ih =>
    intro v1 v2 v3 I w hg
    unfold g_X9_falseOnes_4 at hg
    obtain ⟨x1, hx1⟩ : ∃ x : Int32, x = (I 77 0) := ⟨_, rfl⟩
    replace hg := bnd_use hx1 hg
    refine TT_go 5 (pc' := 11) (lv' := [(0, .ref 55), (1, .int v1), (2, .int v2), (3, .int v3)]) (st' := [.int x1, .int v3]) (h2 := (83, I, R0 p)) (by subst hx1; rfl) ?_
    by_cases hc2 : x1 ≤ v3
    · rw [if_pos hc2] at hg
      refine TT_ige_t (t := 141) rfl rfl hc2 ?_
      refine TT_go 1 (pc' := 142) (lv' := [(0, .ref 55), (1, .int v1), (2, .int v2), (3, .int v3)]) (st' := [.int v2]) (h2 := (83, I, R0 p)) (by rfl) ?_
      have hg := Option.some.inj hg
      subst hg
      exact TT_ret rfl rfl
    · rw [if_neg hc2] at hg
      refine TT_ige_f (t := 141) rfl rfl hc2 ?_
      refine TT_go 4 (pc' := 20) (lv' := [(5, .int 0), (4, .int 0), (0, .ref 55), (1, .int v1), (2, .int v2), (3, .int v3)]) (st' := []) (h2 := (83, I, R0 p)) (by rfl) ?_
      refine TT_sub (lv2 := [(0, .ref 55), (1, .int v1), (2, .int v2), (3, .int v3), (4, .int 0), (5, .int 0)]) rfl rfl ⟨rfl, rfl, rfl, rfl, rfl, rfl, trivial⟩ ?_
      exact t_X9_falseOnes_20 ih n v1 v2 v3 0 0 _ _ hg
def g_X9_falseOnes (n : Nat) (a0 : Int32) (I : IH) : Option (Int32 × IH) :=
  g_X9_falseOnes_4 n a0 0 0 I
set_option maxRecDepth 20000 in
theorem t_X9_falseOnes {p : Nat} {n : Nat} {a0 : Int32} {I : IH} {w : Int32 × IH} (hg : g_X9_falseOnes n a0 I = some w) : TT none mt_X9_falseOnes 0 (lv_args 0 [.ref 55, .int a0]) [] (83, I, R0 p) (some (.int w.1)) (83, w.2, R0 p) := by
  unfold g_X9_falseOnes at hg
  refine TT_go 4 (pc' := 4) (lv' := [(3, .int 0), (2, .int 0), (0, .ref 55), (1, .int a0)]) (st' := []) (h2 := (83, I, R0 p)) (by rfl) ?_
  refine TT_sub (lv2 := [(0, .ref 55), (1, .int a0), (2, .int 0), (3, .int 0)]) rfl rfl ⟨rfl, rfl, rfl, rfl, trivial⟩ ?_
  exact t_X9_falseOnes_4 n a0 0 0 _ _ hg
def g_X9_stolen (n : Nat) (a0 : Int32) (a1 : Int32) (I : IH) : Option (Int32 × IH) :=
  match g_X9_isGlass n a0 I with
  | none => none
  | some (r4, J3) =>
    if r4 = 0 then
      some ((-1), J3)
    else
      match g_X9_in n (Int32.toInt64 a1) 0 3 J3 with
      | none => none
      | some (r9, J8) =>
        if r9 = 0 then
          some ((-1), J8)
        else
          if inB a0 16 = true then
            bnd (J8 62 (Int32.toNatClampNeg a0)) fun x12 =>
            if inB a0 16 = true then
              bnd (J8 63 (Int32.toNatClampNeg a0)) fun x14 =>
              bnd ((x12 + x14)) fun x15 =>
              if a1 = 0 then
                match g_X9_fewest n a0 x15 J8 with
                | none => none
                | some (r20, J19) =>
                  some ((x15 - r20), J19)
              else if a1 = 1 then
                match g_X9_till n a0 x15 J8 with
                | none => none
                | some (r25, J24) =>
                  some (r25, J24)
              else if a1 = 2 then
                match g_X9_since n a0 x15 J8 with
                | none => none
                | some (r30, J29) =>
                  some (r30, J29)
              else
                match g_X9_falseOnes n a0 J8 with
                | none => none
                | some (r34, J33) =>
                  some (r34, J33)
            else none
          else none
set_option maxRecDepth 20000 in
theorem t_X9_stolen {p : Nat} {n : Nat} {a0 : Int32} {a1 : Int32} {I : IH} {w : Int32 × IH} (hg : g_X9_stolen n a0 a1 I = some w) : TT none mt_X9_stolen 0 (lv_args 0 [.ref 55, .int a0, .int a1]) [] (83, I, R0 p) (some (.int w.1)) (83, w.2, R0 p) := by
  unfold g_X9_stolen at hg
  refine TT_go 2 (pc' := 2) (lv' := [(0, .ref 55), (1, .int a0), (2, .int a1)]) (st' := [.int a0, .ref 55]) (h2 := (83, I, R0 p)) (by rfl) ?_
  cases hq1 : g_X9_isGlass n a0 I with
  | none => rw [hq1] at hg; cases hg
  | some w2 =>
    obtain ⟨r4, J3⟩ := w2
    rw [hq1] at hg
    dsimp only at hg
    refine TT_call (me' := mt_X9_isGlass) (as := [.ref 55, .int a0]) (rest := []) (r1 := some (.int r4)) (h1 := (83, J3, R0 p)) rfl rfl (by rfl) (t_X9_isGlass hq1) ?_
    refine TT_go 0 (pc' := 5) (lv' := [(0, .ref 55), (1, .int a0), (2, .int a1)]) (st' := [.int r4]) (h2 := (83, J3, R0 p)) (by rfl) ?_
    by_cases hc5 : r4 = 0
    · rw [if_pos hc5] at hg
      refine TT_zeq_t (t := 20) rfl rfl hc5 ?_
      refine TT_go 1 (pc' := 21) (lv' := [(0, .ref 55), (1, .int a0), (2, .int a1)]) (st' := [.int (-1)]) (h2 := (83, J3, R0 p)) (by rfl) ?_
      have hg := Option.some.inj hg
      subst hg
      exact TT_ret rfl rfl
    · rw [if_neg hc5] at hg
      refine TT_zeq_f (t := 20) rfl rfl hc5 ?_
      refine TT_go 4 (pc' := 14) (lv' := [(0, .ref 55), (1, .int a0), (2, .int a1)]) (st' := [.long 3, .long 0, .long (Int32.toInt64 a1)]) (h2 := (83, J3, R0 p)) (by rfl) ?_
      cases hq6 : g_X9_in n (Int32.toInt64 a1) 0 3 J3 with
      | none => rw [hq6] at hg; cases hg
      | some w7 =>
        obtain ⟨r9, J8⟩ := w7
        rw [hq6] at hg
        dsimp only at hg
        refine TT_call (me' := mt_X9_in) (as := [.long (Int32.toInt64 a1), .long 0, .long 3]) (rest := []) (r1 := some (.int r9)) (h1 := (83, J8, R0 p)) rfl rfl (by rfl) (t_X9_in hq6) ?_
        refine TT_go 0 (pc' := 17) (lv' := [(0, .ref 55), (1, .int a0), (2, .int a1)]) (st' := [.int r9]) (h2 := (83, J8, R0 p)) (by rfl) ?_
        by_cases hc10 : r9 = 0
        · rw [if_pos hc10] at hg
          refine TT_zne_f (t := 22) rfl rfl hc10 ?_
          refine TT_go 1 (pc' := 21) (lv' := [(0, .ref 55), (1, .int a0), (2, .int a1)]) (st' := [.int (-1)]) (h2 := (83, J8, R0 p)) (by rfl) ?_
          have hg := Option.some.inj hg
          subst hg
          exact TT_ret rfl rfl
        · rw [if_neg hc10] at hg
          refine TT_zne_t (t := 22) rfl rfl hc10 ?_
          refine TT_go 3 (pc' := 27) (lv' := [(0, .ref 55), (1, .int a0), (2, .int a1)]) (st' := [.int a0, .ref 62]) (h2 := (83, J8, R0 p)) (by rfl) ?_
          by_cases hb11 : inB a0 16 = true
          rotate_left
          · rw [if_neg hb11] at hg; cases hg
          rw [if_pos hb11] at hg
          refine TT_iald (n := 16) rfl (by rfl) hb11 ?_
          obtain ⟨x12, hx12⟩ : ∃ x : Int32, x = (J8 62 (Int32.toNatClampNeg a0)) := ⟨_, rfl⟩
          replace hg := bnd_use hx12 hg
          refine TT_go 0 (pc' := 28) (lv' := [(0, .ref 55), (1, .int a0), (2, .int a1)]) (st' := [.int x12]) (h2 := (83, J8, R0 p)) (by subst hx12; rfl) ?_
          refine TT_go 3 (pc' := 33) (lv' := [(0, .ref 55), (1, .int a0), (2, .int a1)]) (st' := [.int a0, .ref 63, .int x12]) (h2 := (83, J8, R0 p)) (by rfl) ?_
          by_cases hb13 : inB a0 16 = true
          rotate_left
          · rw [if_neg hb13] at hg; cases hg
          rw [if_pos hb13] at hg
          refine TT_iald (n := 16) rfl (by rfl) hb13 ?_
          obtain ⟨x14, hx14⟩ : ∃ x : Int32, x = (J8 63 (Int32.toNatClampNeg a0)) := ⟨_, rfl⟩
          replace hg := bnd_use hx14 hg
          refine TT_go 0 (pc' := 34) (lv' := [(0, .ref 55), (1, .int a0), (2, .int a1)]) (st' := [.int x14, .int x12]) (h2 := (83, J8, R0 p)) (by subst hx14; rfl) ?_
          obtain ⟨x15, hx15⟩ : ∃ x : Int32, x = ((x12 + x14)) := ⟨_, rfl⟩
          replace hg := bnd_use hx15 hg
          refine TT_go 2 (pc' := 36) (lv' := [(3, .int x15), (0, .ref 55), (1, .int a0), (2, .int a1)]) (st' := []) (h2 := (83, J8, R0 p)) (by subst hx15; rfl) ?_
          refine TT_go 1 (pc' := 37) (lv' := [(3, .int x15), (0, .ref 55), (1, .int a0), (2, .int a1)]) (st' := [.int a1]) (h2 := (83, J8, R0 p)) (by rfl) ?_
          by_cases hc16 : a1 = 0
          · rw [if_pos hc16] at hg
            refine TT_tin (t := 64) (off := 27) rfl (by rw [hc16]; decide) (by rw [hc16]; rfl) rfl ?_
            refine TT_go 4 (pc' := 68) (lv' := [(3, .int x15), (0, .ref 55), (1, .int a0), (2, .int a1)]) (st' := [.int x15, .int a0, .ref 55, .int x15]) (h2 := (83, J8, R0 p)) (by rfl) ?_
            cases hq17 : g_X9_fewest n a0 x15 J8 with
            | none => rw [hq17] at hg; cases hg
            | some w18 =>
              obtain ⟨r20, J19⟩ := w18
              rw [hq17] at hg
              dsimp only at hg
              refine TT_call (me' := mt_X9_fewest) (as := [.ref 55, .int a0, .int x15]) (rest := [.int x15]) (r1 := some (.int r20)) (h1 := (83, J19, R0 p)) rfl rfl (by rfl) (t_X9_fewest hq17) ?_
              refine TT_go 1 (pc' := 72) (lv' := [(3, .int x15), (0, .ref 55), (1, .int a0), (2, .int a1)]) (st' := [.int (x15 - r20)]) (h2 := (83, J19, R0 p)) (by rfl) ?_
              have hg := Option.some.inj hg
              subst hg
              exact TT_ret rfl rfl
          rw [if_neg hc16] at hg
          by_cases hc21 : a1 = 1
          · rw [if_pos hc21] at hg
            refine TT_tin (t := 73) (off := 36) rfl (by rw [hc21]; decide) (by rw [hc21]; rfl) rfl ?_
            refine TT_go 3 (pc' := 76) (lv' := [(3, .int x15), (0, .ref 55), (1, .int a0), (2, .int a1)]) (st' := [.int x15, .int a0, .ref 55]) (h2 := (83, J8, R0 p)) (by rfl) ?_
            cases hq22 : g_X9_till n a0 x15 J8 with
            | none => rw [hq22] at hg; cases hg
            | some w23 =>
              obtain ⟨r25, J24⟩ := w23
              rw [hq22] at hg
              dsimp only at hg
              refine TT_call (me' := mt_X9_till) (as := [.ref 55, .int a0, .int x15]) (rest := []) (r1 := some (.int r25)) (h1 := (83, J24, R0 p)) rfl rfl (by rfl) (t_X9_till hq22) ?_
              refine TT_go 0 (pc' := 79) (lv' := [(3, .int x15), (0, .ref 55), (1, .int a0), (2, .int a1)]) (st' := [.int r25]) (h2 := (83, J24, R0 p)) (by rfl) ?_
              have hg := Option.some.inj hg
              subst hg
              exact TT_ret rfl rfl
          rw [if_neg hc21] at hg
          by_cases hc26 : a1 = 2
          · rw [if_pos hc26] at hg
            refine TT_tin (t := 80) (off := 43) rfl (by rw [hc26]; decide) (by rw [hc26]; rfl) rfl ?_
            refine TT_go 3 (pc' := 83) (lv' := [(3, .int x15), (0, .ref 55), (1, .int a0), (2, .int a1)]) (st' := [.int x15, .int a0, .ref 55]) (h2 := (83, J8, R0 p)) (by rfl) ?_
            cases hq27 : g_X9_since n a0 x15 J8 with
            | none => rw [hq27] at hg; cases hg
            | some w28 =>
              obtain ⟨r30, J29⟩ := w28
              rw [hq27] at hg
              dsimp only at hg
              refine TT_call (me' := mt_X9_since) (as := [.ref 55, .int a0, .int x15]) (rest := []) (r1 := some (.int r30)) (h1 := (83, J29, R0 p)) rfl rfl (by rfl) (t_X9_since hq27) ?_
              refine TT_go 0 (pc' := 86) (lv' := [(3, .int x15), (0, .ref 55), (1, .int a0), (2, .int a1)]) (st' := [.int r30]) (h2 := (83, J29, R0 p)) (by rfl) ?_
              have hg := Option.some.inj hg
              subst hg
              exact TT_ret rfl rfl
          rw [if_neg hc26] at hg
          refine TT_tout (t := 87) rfl (by have e0 := lv_neT (a := 0) hc16 (by decide); have e1 := lv_neT (a := 1) hc21 (by decide); have e2 := lv_neT (a := 2) hc26 (by decide); omega) rfl ?_
          refine TT_go 2 (pc' := 89) (lv' := [(3, .int x15), (0, .ref 55), (1, .int a0), (2, .int a1)]) (st' := [.int a0, .ref 55]) (h2 := (83, J8, R0 p)) (by rfl) ?_
          cases hq31 : g_X9_falseOnes n a0 J8 with
          | none => rw [hq31] at hg; cases hg
          | some w32 =>
            obtain ⟨r34, J33⟩ := w32
            rw [hq31] at hg
            dsimp only at hg
            refine TT_call (me' := mt_X9_falseOnes) (as := [.ref 55, .int a0]) (rest := []) (r1 := some (.int r34)) (h1 := (83, J33, R0 p)) rfl rfl (by rfl) (t_X9_falseOnes hq31) ?_
            refine TT_go 0 (pc' := 92) (lv' := [(3, .int x15), (0, .ref 55), (1, .int a0), (2, .int a1)]) (st' := [.int r34]) (h2 := (83, J33, R0 p)) (by rfl) ?_
            have hg := Option.some.inj hg
            subst hg
            exact TT_ret rfl rfl
