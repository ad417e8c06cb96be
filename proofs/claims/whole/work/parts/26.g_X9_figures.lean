/-! Written by wip/whole/gen20.py. -/
def g_X9_figures_107 (n : Nat) (k2 : Int32 → Int32 → IH → Option (Int32 × IH)) (v1 : Int32) (v2 : Int32) (v4 : Int32) (t0 : Int32) (t1 : Int32) (I : IH) : Option (Int32 × IH) :=
  if t1 = t0 then
    if inB v2 6 = true then
      bnd (up2 I 80 (Int32.toNatClampNeg v2) v4) fun J23 =>
      bnd (up2 J23 55 27 ((J23 55 27) + 1)) fun J24 =>
      bnd (v2 + 1) fun x25 =>
      k2 v1 x25 J24
    else none
  else
    some (0, I)
set_option maxRecDepth 20000 in
theorem t_X9_figures_107 {p : Nat} {n : Nat} {k2 : Int32 → Int32 → IH → Option (Int32 × IH)} (hk2 : ∀ (v1 : Int32) (v2 : Int32) (I : IH) (w : Int32 × IH), k2 v1 v2 I = some w → TT none mt_X9_figures 2 [(0, .ref 55), (1, .int v1), (2, .int v2)] [] (83, I, R0 p) (some (.int w.1)) (83, w.2, R0 p)) {v1 : Int32} {v2 : Int32} {v4 : Int32} {t0 : Int32} {t1 : Int32} {I : IH} {w : Int32 × IH} (hg : g_X9_figures_107 n k2 v1 v2 v4 t0 t1 I = some w) : TT none mt_X9_figures 107 [(0, .ref 55), (1, .int v1), (2, .int v2), (4, .int v4)] [.int t0, .int t1] (83, I, R0 p) (some (.int w.1)) (83, w.2, R0 p) := by
  unfold g_X9_figures_107 at hg
  by_cases hc21 : t1 = t0
  · rw [if_pos hc21] at hg
    refine TT_ieq_t (t := 112) rfl rfl hc21 ?_
    refine TT_go 4 (pc' := 119) (lv' := [(0, .ref 55), (1, .int v1), (2, .int v2), (4, .int v4)]) (st' := [.int v4, .int v2, .ref 80]) (h2 := (83, I, R0 p)) (by rfl) ?_
    by_cases hb22 : inB v2 6 = true
    rotate_left
    · rw [if_neg hb22] at hg; cases hg
    rw [if_pos hb22] at hg
    refine TT_iast (n := 6) rfl (by rfl) hb22 ?_
    obtain ⟨J23, hJ23⟩ : ∃ x : IH, x = (up2 I 80 (Int32.toNatClampNeg v2) v4) := ⟨_, rfl⟩
    replace hg := bnd_use hJ23 hg
    refine TT_go 0 (pc' := 120) (lv' := [(0, .ref 55), (1, .int v1), (2, .int v2), (4, .int v4)]) (st' := []) (h2 := (83, J23, R0 p)) (by subst hJ23; rfl) ?_
    obtain ⟨J24, hJ24⟩ : ∃ x : IH, x = (up2 J23 55 27 ((J23 55 27) + 1)) := ⟨_, rfl⟩
    replace hg := bnd_use hJ24 hg
    refine TT_go 6 (pc' := 130) (lv' := [(0, .ref 55), (1, .int v1), (2, .int v2), (4, .int v4)]) (st' := []) (h2 := (83, J24, R0 p)) (by subst hJ24; rfl) ?_
    obtain ⟨x25, hx25⟩ : ∃ x : Int32, x = (v2 + 1) := ⟨_, rfl⟩
    replace hg := bnd_use hx25 hg
    refine TT_go 1 (pc' := 133) (lv' := [(2, .int x25), (0, .ref 55), (1, .int v1), (4, .int v4)]) (st' := []) (h2 := (83, J24, R0 p)) (by subst hx25; rfl) ?_
    refine TT_go 1 (pc' := 2) (lv' := [(2, .int x25), (0, .ref 55), (1, .int v1), (4, .int v4)]) (st' := []) (h2 := (83, J24, R0 p)) (by rfl) ?_
    refine TT_sub (lv2 := [(0, .ref 55), (1, .int v1), (2, .int x25)]) rfl rfl ⟨rfl, rfl, rfl, trivial⟩ ?_
    exact hk2 v1 x25 _ _ hg
  · rw [if_neg hc21] at hg
    refine TT_ieq_f (t := 112) rfl rfl hc21 ?_
    refine TT_go 1 (pc' := 111) (lv' := [(0, .ref 55), (1, .int v1), (2, .int v2), (4, .int v4)]) (st' := [.int 0]) (h2 := (83, I, R0 p)) (by rfl) ?_
    have hg := Option.some.inj hg
    subst hg
    exact TT_ret rfl rfl
def g_X9_figures_73 (n : Nat) (k2 : Int32 → Int32 → IH → Option (Int32 × IH)) (v1 : Int32) (v2 : Int32) (v3 : Int32) (v4 : Int32) (I : IH) : Option (Int32 × IH) :=
  match g_X9_in n (Int32.toInt64 v3) 1 3 I with
  | none => none
  | some (r14, J13) =>
    if r14 = 0 then
      some (0, J13)
    else
      match g_X9_byteAt n (J13 55 27) J13 with
      | none => none
      | some (r19, J18) =>
        if (v1 - 1) ≤ v2 then
          g_X9_figures_107 n k2 v1 v2 v4 59 r19 J18
        else
          g_X9_figures_107 n k2 v1 v2 v4 44 r19 J18
set_option maxRecDepth 20000 in
theorem t_X9_figures_73 {p : Nat} {n : Nat} {k2 : Int32 → Int32 → IH → Option (Int32 × IH)} (hk2 : ∀ (v1 : Int32) (v2 : Int32) (I : IH) (w : Int32 × IH), k2 v1 v2 I = some w → TT none mt_X9_figures 2 [(0, .ref 55), (1, .int v1), (2, .int v2)] [] (83, I, R0 p) (some (.int w.1)) (83, w.2, R0 p)) {v1 : Int32} {v2 : Int32} {v3 : Int32} {v4 : Int32} {I : IH} {w : Int32 × IH} (hg : g_X9_figures_73 n k2 v1 v2 v3 v4 I = some w) : TT none mt_X9_figures 73 [(0, .ref 55), (1, .int v1), (2, .int v2), (3, .int v3), (4, .int v4)] [] (83, I, R0 p) (some (.int w.1)) (83, w.2, R0 p) := by
  unfold g_X9_figures_73 at hg
  refine TT_go 4 (pc' := 79) (lv' := [(0, .ref 55), (1, .int v1), (2, .int v2), (3, .int v3), (4, .int v4)]) (st' := [.long 3, .long 1, .long (Int32.toInt64 v3)]) (h2 := (83, I, R0 p)) (by rfl) ?_
  cases hq11 : g_X9_in n (Int32.toInt64 v3) 1 3 I with
  | none => rw [hq11] at hg; cases hg
  | some w12 =>
    obtain ⟨r14, J13⟩ := w12
    rw [hq11] at hg
    dsimp only at hg
    refine TT_call (me' := mt_X9_in) (as := [.long (Int32.toInt64 v3), .long 1, .long 3]) (rest := []) (r1 := some (.int r14)) (h1 := (83, J13, R0 p)) rfl rfl (by rfl) (t_X9_in hq11) ?_
    refine TT_go 0 (pc' := 82) (lv' := [(0, .ref 55), (1, .int v1), (2, .int v2), (3, .int v3), (4, .int v4)]) (st' := [.int r14]) (h2 := (83, J13, R0 p)) (by rfl) ?_
    by_cases hc15 : r14 = 0
    · rw [if_pos hc15] at hg
      refine TT_zeq_t (t := 110) rfl rfl hc15 ?_
      refine TT_go 1 (pc' := 111) (lv' := [(0, .ref 55), (1, .int v1), (2, .int v2), (3, .int v3), (4, .int v4)]) (st' := [.int 0]) (h2 := (83, J13, R0 p)) (by rfl) ?_
      have hg := Option.some.inj hg
      subst hg
      exact TT_ret rfl rfl
    · rw [if_neg hc15] at hg
      refine TT_zeq_f (t := 110) rfl rfl hc15 ?_
      refine TT_go 3 (pc' := 90) (lv' := [(0, .ref 55), (1, .int v1), (2, .int v2), (3, .int v3), (4, .int v4)]) (st' := [.int (J13 55 27), .ref 55]) (h2 := (83, J13, R0 p)) (by rfl) ?_
      cases hq16 : g_X9_byteAt n (J13 55 27) J13 with
      | none => rw [hq16] at hg; cases hg
      | some w17 =>
        obtain ⟨r19, J18⟩ := w17
        rw [hq16] at hg
        dsimp only at hg
        refine TT_call (me' := mt_X9_byteAt) (as := [.ref 55, .int (J13 55 27)]) (rest := []) (r1 := some (.int r19)) (h1 := (83, J18, R0 p)) rfl rfl (by rfl) (t_X9_byteAt hq16) ?_
        refine TT_go 4 (pc' := 97) (lv' := [(0, .ref 55), (1, .int v1), (2, .int v2), (3, .int v3), (4, .int v4)]) (st' := [.int (v1 - 1), .int v2, .int r19]) (h2 := (83, J18, R0 p)) (by rfl) ?_
        by_cases hc20 : (v1 - 1) ≤ v2
        · rw [if_pos hc20] at hg
          refine TT_ige_t (t := 105) rfl rfl hc20 ?_
          refine TT_go 1 (pc' := 107) (lv' := [(0, .ref 55), (1, .int v1), (2, .int v2), (3, .int v3), (4, .int v4)]) (st' := [.int 59, .int r19]) (h2 := (83, J18, R0 p)) (by rfl) ?_
          refine TT_sub (lv2 := [(0, .ref 55), (1, .int v1), (2, .int v2), (4, .int v4)]) rfl rfl ⟨rfl, rfl, rfl, rfl, trivial⟩ ?_
          exact t_X9_figures_107 hk2 hg
        · rw [if_neg hc20] at hg
          refine TT_ige_f (t := 105) rfl rfl hc20 ?_
          refine TT_go 2 (pc' := 107) (lv' := [(0, .ref 55), (1, .int v1), (2, .int v2), (3, .int v3), (4, .int v4)]) (st' := [.int 44, .int r19]) (h2 := (83, J18, R0 p)) (by rfl) ?_
          refine TT_sub (lv2 := [(0, .ref 55), (1, .int v1), (2, .int v2), (4, .int v4)]) rfl rfl ⟨rfl, rfl, rfl, rfl, trivial⟩ ?_
          exact t_X9_figures_107 hk2 hg
def g_X9_figures_12 (k2 : Int32 → Int32 → IH → Option (Int32 × IH)) : Nat → Int32 → Int32 → Int32 → Int32 → IH → Option (Int32 × IH)
  | 0, _, _, _, _, _ => none
  | n + 1, v1, v2, v3, v4, I =>
    match g_X9_byteAt n (I 55 27) I with
    | none => none
    | some (r5, J4) =>
      match g_X9_in n (Int32.toInt64 r5) 48 57 J4 with
      | none => none
      | some (r9, J8) =>
        if r9 = 0 then
          g_X9_figures_73 n k2 v1 v2 v3 v4 J8
        else
          if 4 ≤ v3 then
            g_X9_figures_73 n k2 v1 v2 v3 v4 J8
          else
            match g_X9_byteAt n (J8 55 27) J8 with
            | none => none
            | some (r30, J29) =>
              bnd ((((10 * v4) + r30) - 48)) fun x31 =>
              bnd (v3 + 1) fun x32 =>
              bnd (up2 J29 55 27 ((J29 55 27) + 1)) fun J33 =>
              g_X9_figures_12 k2 n v1 v2 x32 x31 J33
set_option maxRecDepth 20000 in
theorem t_X9_figures_12 {p : Nat} {k2 : Int32 → Int32 → IH → Option (Int32 × IH)} (hk2 : ∀ (v1 : Int32) (v2 : Int32) (I : IH) (w : Int32 × IH), k2 v1 v2 I = some w → TT none mt_X9_figures 2 [(0, .ref 55), (1, .int v1), (2, .int v2)] [] (83, I, R0 p) (some (.int w.1)) (83, w.2, R0 p)) : ∀ (n : Nat) (v1 : Int32) (v2 : Int32) (v3 : Int32) (v4 : Int32) (I : IH) (w : Int32 × IH), g_X9_figures_12 k2 n v1 v2 v3 v4 I = some w → TT none mt_X9_figures 12 [(0, .ref 55), (1, .int v1), (2, .int v2), (3, .int v3), (4, .int v4)] [] (83, I, R0 p) (some (.int w.1)) (83, w.2, R0 p) := by
  intro n
  induction n with
  | zero => intro v1 v2 v3 v4 I w hg; cases hg
  | succ n ih =>
    intro v1 v2 v3 v4 I w hg
    unfold g_X9_figures_12 at hg
    refine TT_go 3 (pc' := 17) (lv' := [(0, .ref 55), (1, .int v1), (2, .int v2), (3, .int v3), (4, .int v4)]) (st' := [.int (I 55 27), .ref 55]) (h2 := (83, I, R0 p)) (by rfl) ?_
    cases hq2 : g_X9_byteAt n (I 55 27) I with
    | none => rw [hq2] at hg; cases hg
    | some w3 =>
      obtain ⟨r5, J4⟩ := w3
      rw [hq2] at hg
      dsimp only at hg
      refine TT_call (me' := mt_X9_byteAt) (as := [.ref 55, .int (I 55 27)]) (rest := []) (r1 := some (.int r5)) (h1 := (83, J4, R0 p)) rfl rfl (by rfl) (t_X9_byteAt hq2) ?_
      refine TT_go 3 (pc' := 27) (lv' := [(0, .ref 55), (1, .int v1), (2, .int v2), (3, .int v3), (4, .int v4)]) (st' := [.long 57, .long 48, .long (Int32.toInt64 r5)]) (h2 := (83, J4, R0 p)) (by rfl) ?_
      cases hq6 : g_X9_in n (Int32.toInt64 r5) 48 57 J4 with
      | none => rw [hq6] at hg; cases hg
      | some w7 =>
        obtain ⟨r9, J8⟩ := w7
        rw [hq6] at hg
        dsimp only at hg
        refine TT_call (me' := mt_X9_in) (as := [.long (Int32.toInt64 r5), .long 48, .long 57]) (rest := []) (r1 := some (.int r9)) (h1 := (83, J8, R0 p)) rfl rfl (by rfl) (t_X9_in hq6) ?_
        refine TT_go 0 (pc' := 30) (lv' := [(0, .ref 55), (1, .int v1), (2, .int v2), (3, .int v3), (4, .int v4)]) (st' := [.int r9]) (h2 := (83, J8, R0 p)) (by rfl) ?_
        by_cases hc10 : r9 = 0
        · rw [if_pos hc10] at hg
          refine TT_zeq_t (t := 73) rfl rfl hc10 ?_
          refine TT_go 0 (pc' := 73) (lv' := [(0, .ref 55), (1, .int v1), (2, .int v2), (3, .int v3), (4, .int v4)]) (st' := []) (h2 := (83, J8, R0 p)) (by rfl) ?_
          refine TT_sub (lv2 := [(0, .ref 55), (1, .int v1), (2, .int v2), (3, .int v3), (4, .int v4)]) rfl rfl ⟨rfl, rfl, rfl, rfl, rfl, trivial⟩ ?_
          exact t_X9_figures_73 hk2 hg
        · rw [if_neg hc10] at hg
          refine TT_zeq_f (t := 73) rfl rfl hc10 ?_
          refine TT_go 2 (pc' := 35) (lv' := [(0, .ref 55), (1, .int v1), (2, .int v2), (3, .int v3), (4, .int v4)]) (st' := [.int 4, .int v3]) (h2 := (83, J8, R0 p)) (by rfl) ?_
          by_cases hc26 : 4 ≤ v3
          · rw [if_pos hc26] at hg
            refine TT_ige_t (t := 73) rfl rfl hc26 ?_
            refine TT_go 0 (pc' := 73) (lv' := [(0, .ref 55), (1, .int v1), (2, .int v2), (3, .int v3), (4, .int v4)]) (st' := []) (h2 := (83, J8, R0 p)) (by rfl) ?_
            refine TT_sub (lv2 := [(0, .ref 55), (1, .int v1), (2, .int v2), (3, .int v3), (4, .int v4)]) rfl rfl ⟨rfl, rfl, rfl, rfl, rfl, trivial⟩ ?_
            exact t_X9_figures_73 hk2 hg
          · rw [if_neg hc26] at hg
            refine TT_ige_f (t := 73) rfl rfl hc26 ?_
            refine TT_go 6 (pc' := 48) (lv' := [(0, .ref 55), (1, .int v1), (2, .int v2), (3, .int v3), (4, .int v4)]) (st' := [.int (J8 55 27), .ref 55, .int (10 * v4)]) (h2 := (83, J8, R0 p)) (by rfl) ?_
            cases hq27 : g_X9_byteAt n (J8 55 27) J8 with
            | none => rw [hq27] at hg; cases hg
            | some w28 =>
              obtain ⟨r30, J29⟩ := w28
              rw [hq27] at hg
              dsimp only at hg
              refine TT_call (me' := mt_X9_byteAt) (as := [.ref 55, .int (J8 55 27)]) (rest := [.int (10 * v4)]) (r1 := some (.int r30)) (h1 := (83, J29, R0 p)) rfl rfl (by rfl) (t_X9_byteAt hq27) ?_
              obtain ⟨x31, hx31⟩ : ∃ x : Int32, x = ((((10 * v4) + r30) - 48)) := ⟨_, rfl⟩
              replace hg := bnd_use hx31 hg
              refine TT_go 4 (pc' := 57) (lv' := [(4, .int x31), (0, .ref 55), (1, .int v1), (2, .int v2), (3, .int v3)]) (st' := []) (h2 := (83, J29, R0 p)) (by subst hx31; rfl) ?_
              obtain ⟨x32, hx32⟩ : ∃ x : Int32, x = (v3 + 1) := ⟨_, rfl⟩
              replace hg := bnd_use hx32 hg
              refine TT_go 1 (pc' := 60) (lv' := [(3, .int x32), (4, .int x31), (0, .ref 55), (1, .int v1), (2, .int v2)]) (st' := []) (h2 := (83, J29, R0 p)) (by subst hx32; rfl) ?_
              obtain ⟨J33, hJ33⟩ : ∃ x : IH, x = (up2 J29 55 27 ((J29 55 27) + 1)) := ⟨_, rfl⟩
              replace hg := bnd_use hJ33 hg
              refine TT_go 6 (pc' := 70) (lv' := [(3, .int x32), (4, .int x31), (0, .ref 55), (1, .int v1), (2, .int v2)]) (st' := []) (h2 := (83, J33, R0 p)) (by subst hJ33; rfl) ?_
              refine TT_go 1 (pc' := 12) (lv' := [(3, .int x32), (4, .int x31), (0, .ref 55), (1, .int v1), (2, .int v2)]) (st' := []) (h2 := (83, J33, R0 p)) (by rfl) ?_
              refine TT_sub (lv2 := [(0, .ref 55), (1, .int v1), (2, .int v2), (3, .int x32), (4, .int x31)]) rfl rfl ⟨rfl, rfl, rfl, rfl, rfl, trivial⟩ ?_
              exact ih v1 v2 x32 x31 _ _ hg
def g_X9_figures_2 : Nat → Int32 → Int32 → IH → Option (Int32 × IH)
  | 0, _, _, _ => none
  | n + 1, v1, v2, I =>
    if v1 ≤ v2 then
      some (1, I)
    else
      g_X9_figures_12 (g_X9_figures_2 n) n v1 v2 0 0 I
set_option maxRecDepth 20000 in
theorem t_X9_figures_2 {p : Nat} : ∀ (n : Nat) (v1 : Int32) (v2 : Int32) (I : IH) (w : Int32 × IH), g_X9_figures_2 n v1 v2 I = some w → TT none mt_X9_figures 2 [(0, .ref 55), (1, .int v1), (2, .int v2)] [] (83, I, R0 p) (some (.int w.1)) (83, w.2, R0 p) := by
  intro n
  induction n with
  | zero => intro v1 v2 I w hg; cases hg
  | succ n ih =>
    intro v1 v2 I w hg
    unfold g_X9_figures_2 at hg
    refine TT_go 2 (pc' := 4) (lv' := [(0, .ref 55), (1, .int v1), (2, .int v2)]) (st' := [.int v1, .int v2]) (h2 := (83, I, R0 p)) (by rfl) ?_
    by_cases hc1 : v1 ≤ v2
    · rw [if_pos hc1] at hg
      refine TT_ige_t (t := 136) rfl rfl hc1 ?_
      refine TT_go 1 (pc' := 137) (lv' := [(0, .ref 55), (1, .int v1), (2, .int v2)]) (st' := [.int 1]) (h2 := (83, I, R0 p)) (by rfl) ?_
      have hg := Option.some.inj hg
      subst hg
      exact TT_ret rfl rfl
    · rw [if_neg hc1] at hg
      refine TT_ige_f (t := 136) rfl rfl hc1 ?_
      refine TT_go 4 (pc' := 12) (lv' := [(4, .int 0), (3, .int 0), (0, .ref 55), (1, .int v1), (2, .int v2)]) (st' := []) (h2 := (83, I, R0 p)) (by rfl) ?_
      refine TT_sub (lv2 := [(0, .ref 55), (1, .int v1), (2, .int v2), (3, .int 0), (4, .int 0)]) rfl rfl ⟨rfl, rfl, rfl, rfl, rfl, trivial⟩ ?_
      exact t_X9_figures_12 ih n v1 v2 0 0 _ _ hg
def g_X9_figures (n : Nat) (a0 : Int32) (I : IH) : Option (Int32 × IH) :=
  g_X9_figures_2 n a0 0 I
set_option maxRecDepth 20000 in
theorem t_X9_figures {p : Nat} {n : Nat} {a0 : Int32} {I : IH} {w : Int32 × IH} (hg : g_X9_figures n a0 I = some w) : TT none mt_X9_figures 0 (lv_args 0 [.ref 55, .int a0]) [] (83, I, R0 p) (some (.int w.1)) (83, w.2, R0 p) := by
  unfold g_X9_figures at hg
  refine TT_go 2 (pc' := 2) (lv' := [(2, .int 0), (0, .ref 55), (1, .int a0)]) (st' := []) (h2 := (83, I, R0 p)) (by rfl) ?_
  refine TT_sub (lv2 := [(0, .ref 55), (1, .int a0), (2, .int 0)]) rfl rfl ⟨rfl, rfl, rfl, trivial⟩ ?_
  exact t_X9_figures_2 n a0 0 _ _ hg
def g_X9_glassItem (n : Nat) (I : IH) : Option (Int32 × IH) :=
  bnd (I 57 1) fun x1 =>
  bnd ((8 + x1)) fun x2 =>
  match g_X9_figures n 6 I with
  | none => none
  | some (r6, J5) =>
    if r6 = 0 then
      some (0, J5)
    else
      bnd (J5 57 1) fun x8 =>
      if x8 = 8 then
        some (0, J5)
      else
        bnd (J5 80 0) fun x10 =>
        if 3 < x10 then
          some (0, J5)
        else
          bnd (J5 80 1) fun x12 =>
          if 5 < x12 then
            some (0, J5)
          else
            bnd (J5 80 2) fun x14 =>
            if 5 < x14 then
              some (0, J5)
            else
              bnd (J5 80 3) fun x16 =>
              match g_X9_in n (Int32.toInt64 x16) 1 60 J5 with
              | none => none
              | some (r20, J19) =>
                if r20 = 0 then
                  some (0, J19)
                else
                  bnd (J19 80 0) fun x22 =>
                  if inB x2 16 = true then
                    bnd (up2 J19 58 (Int32.toNatClampNeg x2) x22) fun J24 =>
                    bnd (J24 80 1) fun x25 =>
                    if inB x2 16 = true then
                      bnd (up2 J24 59 (Int32.toNatClampNeg x2) x25) fun J27 =>
                      bnd (J27 80 2) fun x28 =>
                      if inB x2 16 = true then
                        bnd (up2 J27 60 (Int32.toNatClampNeg x2) x28) fun J30 =>
                        bnd (J30 80 3) fun x31 =>
                        if inB x2 16 = true then
                          bnd (up2 J30 61 (Int32.toNatClampNeg x2) x31) fun J33 =>
                          bnd (J33 80 4) fun x34 =>
                          if inB x2 16 = true then
                            bnd (up2 J33 62 (Int32.toNatClampNeg x2) x34) fun J36 =>
                            bnd (J36 80 5) fun x37 =>
                            if inB x2 16 = true then
                              bnd (up2 J36 63 (Int32.toNatClampNeg x2) x37) fun J39 =>
                              bnd (J39 80 1) fun x40 =>
                              if inB x2 16 = true then
                                bnd (up2 J39 64 (Int32.toNatClampNeg x2) x40) fun J42 =>
                                bnd (J42 57 1) fun x43 =>
                                bnd (up2 J42 57 1 (x43 + 1)) fun J44 =>
                                some (1, J44)
                              else none
                            else none
                          else none
                        else none
                      else none
                    else none
                  else none
set_option maxRecDepth 20000 in
theorem t_X9_glassItem {p : Nat} {n : Nat} {I : IH} {w : Int32 × IH} (hg : g_X9_glassItem n I = some w) : TT none mt_X9_glassItem 0 (lv_args 0 [.ref 55]) [] (83, I, R0 p) (some (.int w.1)) (83, w.2, R0 p) := by
  unfold g_X9_glassItem at hg
  obtain ⟨x1, hx1⟩ : ∃ x : Int32, x = (I 57 1) := ⟨_, rfl⟩
  replace hg := bnd_use hx1 hg
  refine TT_go 5 (pc' := 8) (lv' := [(0, .ref 55)]) (st' := [.int x1, .int 8]) (h2 := (83, I, R0 p)) (by subst hx1; rfl) ?_
  obtain ⟨x2, hx2⟩ : ∃ x : Int32, x = ((8 + x1)) := ⟨_, rfl⟩
  replace hg := bnd_use hx2 hg
  refine TT_go 2 (pc' := 10) (lv' := [(1, .int x2), (0, .ref 55)]) (st' := []) (h2 := (83, I, R0 p)) (by subst hx2; rfl) ?_
  refine TT_go 2 (pc' := 13) (lv' := [(1, .int x2), (0, .ref 55)]) (st' := [.int 6, .ref 55]) (h2 := (83, I, R0 p)) (by rfl) ?_
  cases hq3 : g_X9_figures n 6 I with
  | none => rw [hq3] at hg; cases hg
  | some w4 =>
    obtain ⟨r6, J5⟩ := w4
    rw [hq3] at hg
    dsimp only at hg
    refine TT_call (me' := mt_X9_figures) (as := [.ref 55, .int 6]) (rest := []) (r1 := some (.int r6)) (h1 := (83, J5, R0 p)) rfl rfl (by rfl) (t_X9_figures hq3) ?_
    refine TT_go 0 (pc' := 16) (lv' := [(1, .int x2), (0, .ref 55)]) (st' := [.int r6]) (h2 := (83, J5, R0 p)) (by rfl) ?_
    by_cases hc7 : r6 = 0
    · rw [if_pos hc7] at hg
      refine TT_zeq_t (t := 77) rfl rfl hc7 ?_
      refine TT_go 1 (pc' := 78) (lv' := [(1, .int x2), (0, .ref 55)]) (st' := [.int 0]) (h2 := (83, J5, R0 p)) (by rfl) ?_
      have hg := Option.some.inj hg
      subst hg
      exact TT_ret rfl rfl
    · rw [if_neg hc7] at hg
      refine TT_zeq_f (t := 77) rfl rfl hc7 ?_
      obtain ⟨x8, hx8⟩ : ∃ x : Int32, x = (J5 57 1) := ⟨_, rfl⟩
      replace hg := bnd_use hx8 hg
      refine TT_go 4 (pc' := 25) (lv' := [(1, .int x2), (0, .ref 55)]) (st' := [.int x8]) (h2 := (83, J5, R0 p)) (by subst hx8; rfl) ?_
      refine TT_go 1 (pc' := 27) (lv' := [(1, .int x2), (0, .ref 55)]) (st' := [.int 8, .int x8]) (h2 := (83, J5, R0 p)) (by rfl) ?_
      by_cases hc9 : x8 = 8
      · rw [if_pos hc9] at hg
        refine TT_ieq_t (t := 77) rfl rfl hc9 ?_
        refine TT_go 1 (pc' := 78) (lv' := [(1, .int x2), (0, .ref 55)]) (st' := [.int 0]) (h2 := (83, J5, R0 p)) (by rfl) ?_
        have hg := Option.some.inj hg
        subst hg
        exact TT_ret rfl rfl
      · rw [if_neg hc9] at hg
        refine TT_ieq_f (t := 77) rfl rfl hc9 ?_
        obtain ⟨x10, hx10⟩ : ∃ x : Int32, x = (J5 80 0) := ⟨_, rfl⟩
        replace hg := bnd_use hx10 hg
        refine TT_go 4 (pc' := 36) (lv' := [(1, .int x2), (0, .ref 55)]) (st' := [.int x10]) (h2 := (83, J5, R0 p)) (by subst hx10; rfl) ?_
        refine TT_go 1 (pc' := 37) (lv' := [(1, .int x2), (0, .ref 55)]) (st' := [.int 3, .int x10]) (h2 := (83, J5, R0 p)) (by rfl) ?_
        by_cases hc11 : 3 < x10
        · rw [if_pos hc11] at hg
          refine TT_igt_t (t := 77) rfl rfl hc11 ?_
          refine TT_go 1 (pc' := 78) (lv' := [(1, .int x2), (0, .ref 55)]) (st' := [.int 0]) (h2 := (83, J5, R0 p)) (by rfl) ?_
          have hg := Option.some.inj hg
          subst hg
          exact TT_ret rfl rfl
        · rw [if_neg hc11] at hg
          refine TT_igt_f (t := 77) rfl rfl hc11 ?_
          obtain ⟨x12, hx12⟩ : ∃ x : Int32, x = (J5 80 1) := ⟨_, rfl⟩
          replace hg := bnd_use hx12 hg
          refine TT_go 4 (pc' := 46) (lv' := [(1, .int x2), (0, .ref 55)]) (st' := [.int x12]) (h2 := (83, J5, R0 p)) (by subst hx12; rfl) ?_
          refine TT_go 1 (pc' := 47) (lv' := [(1, .int x2), (0, .ref 55)]) (st' := [.int 5, .int x12]) (h2 := (83, J5, R0 p)) (by rfl) ?_
          by_cases hc13 : 5 < x12
          · rw [if_pos hc13] at hg
            refine TT_igt_t (t := 77) rfl rfl hc13 ?_
            refine TT_go 1 (pc' := 78) (lv' := [(1, .int x2), (0, .ref 55)]) (st' := [.int 0]) (h2 := (83, J5, R0 p)) (by rfl) ?_
            have hg := Option.some.inj hg
            subst hg
            exact TT_ret rfl rfl
          · rw [if_neg hc13] at hg
            refine TT_igt_f (t := 77) rfl rfl hc13 ?_
            obtain ⟨x14, hx14⟩ : ∃ x : Int32, x = (J5 80 2) := ⟨_, rfl⟩
            replace hg := bnd_use hx14 hg
            refine TT_go 4 (pc' := 56) (lv' := [(1, .int x2), (0, .ref 55)]) (st' := [.int x14]) (h2 := (83, J5, R0 p)) (by subst hx14; rfl) ?_
            refine TT_go 1 (pc' := 57) (lv' := [(1, .int x2), (0, .ref 55)]) (st' := [.int 5, .int x14]) (h2 := (83, J5, R0 p)) (by rfl) ?_
            by_cases hc15 : 5 < x14
            · rw [if_pos hc15] at hg
              refine TT_igt_t (t := 77) rfl rfl hc15 ?_
              refine TT_go 1 (pc' := 78) (lv' := [(1, .int x2), (0, .ref 55)]) (st' := [.int 0]) (h2 := (83, J5, R0 p)) (by rfl) ?_
              have hg := Option.some.inj hg
              subst hg
              exact TT_ret rfl rfl
            · rw [if_neg hc15] at hg
              refine TT_igt_f (t := 77) rfl rfl hc15 ?_
              obtain ⟨x16, hx16⟩ : ∃ x : Int32, x = (J5 80 3) := ⟨_, rfl⟩
              replace hg := bnd_use hx16 hg
              refine TT_go 4 (pc' := 66) (lv' := [(1, .int x2), (0, .ref 55)]) (st' := [.int x16]) (h2 := (83, J5, R0 p)) (by subst hx16; rfl) ?_
              refine TT_go 3 (pc' := 71) (lv' := [(1, .int x2), (0, .ref 55)]) (st' := [.long 60, .long 1, .long (Int32.toInt64 x16)]) (h2 := (83, J5, R0 p)) (by rfl) ?_
              cases hq17 : g_X9_in n (Int32.toInt64 x16) 1 60 J5 with
              | none => rw [hq17] at hg; cases hg
              | some w18 =>
                obtain ⟨r20, J19⟩ := w18
                rw [hq17] at hg
                dsimp only at hg
                refine TT_call (me' := mt_X9_in) (as := [.long (Int32.toInt64 x16), .long 1, .long 60]) (rest := []) (r1 := some (.int r20)) (h1 := (83, J19, R0 p)) rfl rfl (by rfl) (t_X9_in hq17) ?_
                refine TT_go 0 (pc' := 74) (lv' := [(1, .int x2), (0, .ref 55)]) (st' := [.int r20]) (h2 := (83, J19, R0 p)) (by rfl) ?_
                by_cases hc21 : r20 = 0
                · rw [if_pos hc21] at hg
                  refine TT_zne_f (t := 79) rfl rfl hc21 ?_
                  refine TT_go 1 (pc' := 78) (lv' := [(1, .int x2), (0, .ref 55)]) (st' := [.int 0]) (h2 := (83, J19, R0 p)) (by rfl) ?_
                  have hg := Option.some.inj hg
                  subst hg
                  exact TT_ret rfl rfl
                · rw [if_neg hc21] at hg
                  refine TT_zne_t (t := 79) rfl rfl hc21 ?_
                  obtain ⟨x22, hx22⟩ : ∃ x : Int32, x = (J19 80 0) := ⟨_, rfl⟩
                  replace hg := bnd_use hx22 hg
                  refine TT_go 7 (pc' := 90) (lv' := [(1, .int x2), (0, .ref 55)]) (st' := [.int x22, .int x2, .ref 58]) (h2 := (83, J19, R0 p)) (by subst hx22; rfl) ?_
                  by_cases hb23 : inB x2 16 = true
                  rotate_left
                  · rw [if_neg hb23] at hg; cases hg
                  rw [if_pos hb23] at hg
                  refine TT_iast (n := 16) rfl (by rfl) hb23 ?_
                  obtain ⟨J24, hJ24⟩ : ∃ x : IH, x = (up2 J19 58 (Int32.toNatClampNeg x2) x22) := ⟨_, rfl⟩
                  replace hg := bnd_use hJ24 hg
                  refine TT_go 0 (pc' := 91) (lv' := [(1, .int x2), (0, .ref 55)]) (st' := []) (h2 := (83, J24, R0 p)) (by subst hJ24; rfl) ?_
                  obtain ⟨x25, hx25⟩ : ∃ x : Int32, x = (J24 80 1) := ⟨_, rfl⟩
                  replace hg := bnd_use hx25 hg
                  refine TT_go 7 (pc' := 102) (lv' := [(1, .int x2), (0, .ref 55)]) (st' := [.int x25, .int x2, .ref 59]) (h2 := (83, J24, R0 p)) (by subst hx25; rfl) ?_
                  by_cases hb26 : inB x2 16 = true
                  rotate_left
                  · rw [if_neg hb26] at hg; cases hg
                  rw [if_pos hb26] at hg
                  refine TT_iast (n := 16) rfl (by rfl) hb26 ?_
                  obtain ⟨J27, hJ27⟩ : ∃ x : IH, x = (up2 J24 59 (Int32.toNatClampNeg x2) x25) := ⟨_, rfl⟩
                  replace hg := bnd_use hJ27 hg
                  refine TT_go 0 (pc' := 103) (lv' := [(1, .int x2), (0, .ref 55)]) (st' := []) (h2 := (83, J27, R0 p)) (by subst hJ27; rfl) ?_
                  obtain ⟨x28, hx28⟩ : ∃ x : Int32, x = (J27 80 2) := ⟨_, rfl⟩
                  replace hg := bnd_use hx28 hg
                  refine TT_go 7 (pc' := 114) (lv' := [(1, .int x2), (0, .ref 55)]) (st' := [.int x28, .int x2, .ref 60]) (h2 := (83, J27, R0 p)) (by subst hx28; rfl) ?_
                  by_cases hb29 : inB x2 16 = true
                  rotate_left
                  · rw [if_neg hb29] at hg; cases hg
                  rw [if_pos hb29] at hg
                  refine TT_iast (n := 16) rfl (by rfl) hb29 ?_
                  obtain ⟨J30, hJ30⟩ : ∃ x : IH, x = (up2 J27 60 (Int32.toNatClampNeg x2) x28) := ⟨_, rfl⟩
                  replace hg := bnd_use hJ30 hg
                  refine TT_go 0 (pc' := 115) (lv' := [(1, .int x2), (0, .ref 55)]) (st' := []) (h2 := (83, J30, R0 p)) (by subst hJ30; rfl) ?_
                  obtain ⟨x31, hx31⟩ : ∃ x : Int32, x = (J30 80 3) := ⟨_, rfl⟩
                  replace hg := bnd_use hx31 hg
                  refine TT_go 7 (pc' := 126) (lv' := [(1, .int x2), (0, .ref 55)]) (st' := [.int x31, .int x2, .ref 61]) (h2 := (83, J30, R0 p)) (by subst hx31; rfl) ?_
                  by_cases hb32 : inB x2 16 = true
                  rotate_left
                  · rw [if_neg hb32] at hg; cases hg
                  rw [if_pos hb32] at hg
                  refine TT_iast (n := 16) rfl (by rfl) hb32 ?_
                  obtain ⟨J33, hJ33⟩ : ∃ x : IH, x = (up2 J30 61 (Int32.toNatClampNeg x2) x31) := ⟨_, rfl⟩
                  replace hg := bnd_use hJ33 hg
                  refine TT_go 0 (pc' := 127) (lv' := [(1, .int x2), (0, .ref 55)]) (st' := []) (h2 := (83, J33, R0 p)) (by subst hJ33; rfl) ?_
                  obtain ⟨x34, hx34⟩ : ∃ x : Int32, x = (J33 80 4) := ⟨_, rfl⟩
                  replace hg := bnd_use hx34 hg
                  refine TT_go 7 (pc' := 138) (lv' := [(1, .int x2), (0, .ref 55)]) (st' := [.int x34, .int x2, .ref 62]) (h2 := (83, J33, R0 p)) (by subst hx34; rfl) ?_
                  by_cases hb35 : inB x2 16 = true
                  rotate_left
                  · rw [if_neg hb35] at hg; cases hg
                  rw [if_pos hb35] at hg
                  refine TT_iast (n := 16) rfl (by rfl) hb35 ?_
                  obtain ⟨J36, hJ36⟩ : ∃ x : IH, x = (up2 J33 62 (Int32.toNatClampNeg x2) x34) := ⟨_, rfl⟩
                  replace hg := bnd_use hJ36 hg
                  refine TT_go 0 (pc' := 139) (lv' := [(1, .int x2), (0, .ref 55)]) (st' := []) (h2 := (83, J36, R0 p)) (by subst hJ36; rfl) ?_
                  obtain ⟨x37, hx37⟩ : ∃ x : Int32, x = (J36 80 5) := ⟨_, rfl⟩
                  replace hg := bnd_use hx37 hg
                  refine TT_go 7 (pc' := 150) (lv' := [(1, .int x2), (0, .ref 55)]) (st' := [.int x37, .int x2, .ref 63]) (h2 := (83, J36, R0 p)) (by subst hx37; rfl) ?_
                  by_cases hb38 : inB x2 16 = true
                  rotate_left
                  · rw [if_neg hb38] at hg; cases hg
                  rw [if_pos hb38] at hg
                  refine TT_iast (n := 16) rfl (by rfl) hb38 ?_
                  obtain ⟨J39, hJ39⟩ : ∃ x : IH, x = (up2 J36 63 (Int32.toNatClampNeg x2) x37) := ⟨_, rfl⟩
                  replace hg := bnd_use hJ39 hg
                  refine TT_go 0 (pc' := 151) (lv' := [(1, .int x2), (0, .ref 55)]) (st' := []) (h2 := (83, J39, R0 p)) (by subst hJ39; rfl) ?_
                  obtain ⟨x40, hx40⟩ : ∃ x : Int32, x = (J39 80 1) := ⟨_, rfl⟩
                  replace hg := bnd_use hx40 hg
                  refine TT_go 7 (pc' := 162) (lv' := [(1, .int x2), (0, .ref 55)]) (st' := [.int x40, .int x2, .ref 64]) (h2 := (83, J39, R0 p)) (by subst hx40; rfl) ?_
                  by_cases hb41 : inB x2 16 = true
                  rotate_left
                  · rw [if_neg hb41] at hg; cases hg
                  rw [if_pos hb41] at hg
                  refine TT_iast (n := 16) rfl (by rfl) hb41 ?_
                  obtain ⟨J42, hJ42⟩ : ∃ x : IH, x = (up2 J39 64 (Int32.toNatClampNeg x2) x40) := ⟨_, rfl⟩
                  replace hg := bnd_use hJ42 hg
                  refine TT_go 0 (pc' := 163) (lv' := [(1, .int x2), (0, .ref 55)]) (st' := []) (h2 := (83, J42, R0 p)) (by subst hJ42; rfl) ?_
                  obtain ⟨x43, hx43⟩ : ∃ x : Int32, x = (J42 57 1) := ⟨_, rfl⟩
                  replace hg := bnd_use hx43 hg
                  refine TT_go 5 (pc' := 170) (lv' := [(1, .int x2), (0, .ref 55)]) (st' := [.int x43, .int 1, .ref 57]) (h2 := (83, J42, R0 p)) (by subst hx43; rfl) ?_
                  obtain ⟨J44, hJ44⟩ : ∃ x : IH, x = (up2 J42 57 1 (x43 + 1)) := ⟨_, rfl⟩
                  replace hg := bnd_use hJ44 hg
                  refine TT_go 3 (pc' := 173) (lv' := [(1, .int x2), (0, .ref 55)]) (st' := []) (h2 := (83, J44, R0 p)) (by subst hJ44; rfl) ?_
                  refine TT_go 1 (pc' := 174) (lv' := [(1, .int x2), (0, .ref 55)]) (st' := [.int 1]) (h2 := (83, J44, R0 p)) (by rfl) ?_
                  have hg := Option.some.inj hg
                  subst hg
                  exact TT_ret rfl rfl
def g_X9_tieItem (n : Nat) (I : IH) : Option (Int32 × IH) :=
  bnd (I 65 1) fun x1 =>
  bnd ((2 * x1)) fun x2 =>
  match g_X9_figures n 2 I with
  | none => none
  | some (r6, J5) =>
    if r6 = 0 then
      some (0, J5)
    else
      bnd (J5 65 1) fun x8 =>
      if x8 = 8 then
        some (0, J5)
      else
        bnd (J5 80 0) fun x10 =>
        bnd (J5 57 1) fun x11 =>
        if x11 ≤ x10 then
          some (0, J5)
        else
          bnd (J5 80 1) fun x13 =>
          bnd (J5 57 1) fun x14 =>
          if x14 ≤ x13 then
            some (0, J5)
          else
            bnd (J5 80 0) fun x16 =>
            bnd (J5 80 1) fun x17 =>
            if x16 = x17 then
              some (0, J5)
            else
              bnd (J5 80 0) fun x19 =>
              if inB x2 16 = true then
                bnd (up2 J5 67 (Int32.toNatClampNeg x2) x19) fun J21 =>
                bnd (J21 80 1) fun x22 =>
                if inB (x2 + 1) 16 = true then
                  bnd (up2 J21 67 (Int32.toNatClampNeg (x2 + 1)) x22) fun J24 =>
                  bnd (J24 65 1) fun x25 =>
                  bnd (up2 J24 65 1 (x25 + 1)) fun J26 =>
                  some (1, J26)
                else none
              else none
set_option maxRecDepth 20000 in
theorem t_X9_tieItem {p : Nat} {n : Nat} {I : IH} {w : Int32 × IH} (hg : g_X9_tieItem n I = some w) : TT none mt_X9_tieItem 0 (lv_args 0 [.ref 55]) [] (83, I, R0 p) (some (.int w.1)) (83, w.2, R0 p) := by
  unfold g_X9_tieItem at hg
  obtain ⟨x1, hx1⟩ : ∃ x : Int32, x = (I 65 1) := ⟨_, rfl⟩
  replace hg := bnd_use hx1 hg
  refine TT_go 5 (pc' := 7) (lv' := [(0, .ref 55)]) (st' := [.int x1, .int 2]) (h2 := (83, I, R0 p)) (by subst hx1; rfl) ?_
  obtain ⟨x2, hx2⟩ : ∃ x : Int32, x = ((2 * x1)) := ⟨_, rfl⟩
  replace hg := bnd_use hx2 hg
  refine TT_go 2 (pc' := 9) (lv' := [(1, .int x2), (0, .ref 55)]) (st' := []) (h2 := (83, I, R0 p)) (by subst hx2; rfl) ?_
  refine TT_go 2 (pc' := 11) (lv' := [(1, .int x2), (0, .ref 55)]) (st' := [.int 2, .ref 55]) (h2 := (83, I, R0 p)) (by rfl) ?_
  cases hq3 : g_X9_figures n 2 I with
  | none => rw [hq3] at hg; cases hg
  | some w4 =>
    obtain ⟨r6, J5⟩ := w4
    rw [hq3] at hg
    dsimp only at hg
    refine TT_call (me' := mt_X9_figures) (as := [.ref 55, .int 2]) (rest := []) (r1 := some (.int r6)) (h1 := (83, J5, R0 p)) rfl rfl (by rfl) (t_X9_figures hq3) ?_
    refine TT_go 0 (pc' := 14) (lv' := [(1, .int x2), (0, .ref 55)]) (st' := [.int r6]) (h2 := (83, J5, R0 p)) (by rfl) ?_
    by_cases hc7 : r6 = 0
    · rw [if_pos hc7] at hg
      refine TT_zeq_t (t := 73) rfl rfl hc7 ?_
      refine TT_go 1 (pc' := 74) (lv' := [(1, .int x2), (0, .ref 55)]) (st' := [.int 0]) (h2 := (83, J5, R0 p)) (by rfl) ?_
      have hg := Option.some.inj hg
      subst hg
      exact TT_ret rfl rfl
    · rw [if_neg hc7] at hg
      refine TT_zeq_f (t := 73) rfl rfl hc7 ?_
      obtain ⟨x8, hx8⟩ : ∃ x : Int32, x = (J5 65 1) := ⟨_, rfl⟩
      replace hg := bnd_use hx8 hg
      refine TT_go 4 (pc' := 23) (lv' := [(1, .int x2), (0, .ref 55)]) (st' := [.int x8]) (h2 := (83, J5, R0 p)) (by subst hx8; rfl) ?_
      refine TT_go 1 (pc' := 25) (lv' := [(1, .int x2), (0, .ref 55)]) (st' := [.int 8, .int x8]) (h2 := (83, J5, R0 p)) (by rfl) ?_
      by_cases hc9 : x8 = 8
      · rw [if_pos hc9] at hg
        refine TT_ieq_t (t := 73) rfl rfl hc9 ?_
        refine TT_go 1 (pc' := 74) (lv' := [(1, .int x2), (0, .ref 55)]) (st' := [.int 0]) (h2 := (83, J5, R0 p)) (by rfl) ?_
        have hg := Option.some.inj hg
        subst hg
        exact TT_ret rfl rfl
      · rw [if_neg hc9] at hg
        refine TT_ieq_f (t := 73) rfl rfl hc9 ?_
        obtain ⟨x10, hx10⟩ : ∃ x : Int32, x = (J5 80 0) := ⟨_, rfl⟩
        replace hg := bnd_use hx10 hg
        refine TT_go 4 (pc' := 34) (lv' := [(1, .int x2), (0, .ref 55)]) (st' := [.int x10]) (h2 := (83, J5, R0 p)) (by subst hx10; rfl) ?_
        obtain ⟨x11, hx11⟩ : ∃ x : Int32, x = (J5 57 1) := ⟨_, rfl⟩
        replace hg := bnd_use hx11 hg
        refine TT_go 4 (pc' := 40) (lv' := [(1, .int x2), (0, .ref 55)]) (st' := [.int x11, .int x10]) (h2 := (83, J5, R0 p)) (by subst hx11; rfl) ?_
        by_cases hc12 : x11 ≤ x10
        · rw [if_pos hc12] at hg
          refine TT_ige_t (t := 73) rfl rfl hc12 ?_
          refine TT_go 1 (pc' := 74) (lv' := [(1, .int x2), (0, .ref 55)]) (st' := [.int 0]) (h2 := (83, J5, R0 p)) (by rfl) ?_
          have hg := Option.some.inj hg
          subst hg
          exact TT_ret rfl rfl
        · rw [if_neg hc12] at hg
          refine TT_ige_f (t := 73) rfl rfl hc12 ?_
          obtain ⟨x13, hx13⟩ : ∃ x : Int32, x = (J5 80 1) := ⟨_, rfl⟩
          replace hg := bnd_use hx13 hg
          refine TT_go 4 (pc' := 49) (lv' := [(1, .int x2), (0, .ref 55)]) (st' := [.int x13]) (h2 := (83, J5, R0 p)) (by subst hx13; rfl) ?_
          obtain ⟨x14, hx14⟩ : ∃ x : Int32, x = (J5 57 1) := ⟨_, rfl⟩
          replace hg := bnd_use hx14 hg
          refine TT_go 4 (pc' := 55) (lv' := [(1, .int x2), (0, .ref 55)]) (st' := [.int x14, .int x13]) (h2 := (83, J5, R0 p)) (by subst hx14; rfl) ?_
          by_cases hc15 : x14 ≤ x13
          · rw [if_pos hc15] at hg
            refine TT_ige_t (t := 73) rfl rfl hc15 ?_
            refine TT_go 1 (pc' := 74) (lv' := [(1, .int x2), (0, .ref 55)]) (st' := [.int 0]) (h2 := (83, J5, R0 p)) (by rfl) ?_
            have hg := Option.some.inj hg
            subst hg
            exact TT_ret rfl rfl
          · rw [if_neg hc15] at hg
            refine TT_ige_f (t := 73) rfl rfl hc15 ?_
            obtain ⟨x16, hx16⟩ : ∃ x : Int32, x = (J5 80 0) := ⟨_, rfl⟩
            replace hg := bnd_use hx16 hg
            refine TT_go 4 (pc' := 64) (lv' := [(1, .int x2), (0, .ref 55)]) (st' := [.int x16]) (h2 := (83, J5, R0 p)) (by subst hx16; rfl) ?_
            obtain ⟨x17, hx17⟩ : ∃ x : Int32, x = (J5 80 1) := ⟨_, rfl⟩
            replace hg := bnd_use hx17 hg
            refine TT_go 4 (pc' := 70) (lv' := [(1, .int x2), (0, .ref 55)]) (st' := [.int x17, .int x16]) (h2 := (83, J5, R0 p)) (by subst hx17; rfl) ?_
            by_cases hc18 : x16 = x17
            · rw [if_pos hc18] at hg
              refine TT_ine_f (t := 75) rfl rfl hc18 ?_
              refine TT_go 1 (pc' := 74) (lv' := [(1, .int x2), (0, .ref 55)]) (st' := [.int 0]) (h2 := (83, J5, R0 p)) (by rfl) ?_
              have hg := Option.some.inj hg
              subst hg
              exact TT_ret rfl rfl
            · rw [if_neg hc18] at hg
              refine TT_ine_t (t := 75) rfl rfl hc18 ?_
              obtain ⟨x19, hx19⟩ : ∃ x : Int32, x = (J5 80 0) := ⟨_, rfl⟩
              replace hg := bnd_use hx19 hg
              refine TT_go 7 (pc' := 86) (lv' := [(1, .int x2), (0, .ref 55)]) (st' := [.int x19, .int x2, .ref 67]) (h2 := (83, J5, R0 p)) (by subst hx19; rfl) ?_
              by_cases hb20 : inB x2 16 = true
              rotate_left
              · rw [if_neg hb20] at hg; cases hg
              rw [if_pos hb20] at hg
              refine TT_iast (n := 16) rfl (by rfl) hb20 ?_
              obtain ⟨J21, hJ21⟩ : ∃ x : IH, x = (up2 J5 67 (Int32.toNatClampNeg x2) x19) := ⟨_, rfl⟩
              replace hg := bnd_use hJ21 hg
              refine TT_go 0 (pc' := 87) (lv' := [(1, .int x2), (0, .ref 55)]) (st' := []) (h2 := (83, J21, R0 p)) (by subst hJ21; rfl) ?_
              obtain ⟨x22, hx22⟩ : ∃ x : Int32, x = (J21 80 1) := ⟨_, rfl⟩
              replace hg := bnd_use hx22 hg
              refine TT_go 9 (pc' := 100) (lv' := [(1, .int x2), (0, .ref 55)]) (st' := [.int x22, .int (x2 + 1), .ref 67]) (h2 := (83, J21, R0 p)) (by subst hx22; rfl) ?_
              by_cases hb23 : inB (x2 + 1) 16 = true
              rotate_left
              · rw [if_neg hb23] at hg; cases hg
              rw [if_pos hb23] at hg
              refine TT_iast (n := 16) rfl (by rfl) hb23 ?_
              obtain ⟨J24, hJ24⟩ : ∃ x : IH, x = (up2 J21 67 (Int32.toNatClampNeg (x2 + 1)) x22) := ⟨_, rfl⟩
              replace hg := bnd_use hJ24 hg
              refine TT_go 0 (pc' := 101) (lv' := [(1, .int x2), (0, .ref 55)]) (st' := []) (h2 := (83, J24, R0 p)) (by subst hJ24; rfl) ?_
              obtain ⟨x25, hx25⟩ : ∃ x : Int32, x = (J24 65 1) := ⟨_, rfl⟩
              replace hg := bnd_use hx25 hg
              refine TT_go 5 (pc' := 108) (lv' := [(1, .int x2), (0, .ref 55)]) (st' := [.int x25, .int 1, .ref 65]) (h2 := (83, J24, R0 p)) (by subst hx25; rfl) ?_
              obtain ⟨J26, hJ26⟩ : ∃ x : IH, x = (up2 J24 65 1 (x25 + 1)) := ⟨_, rfl⟩
              replace hg := bnd_use hJ26 hg
              refine TT_go 3 (pc' := 111) (lv' := [(1, .int x2), (0, .ref 55)]) (st' := []) (h2 := (83, J26, R0 p)) (by subst hJ26; rfl) ?_
              refine TT_go 1 (pc' := 112) (lv' := [(1, .int x2), (0, .ref 55)]) (st' := [.int 1]) (h2 := (83, J26, R0 p)) (by rfl) ?_
              have hg := Option.some.inj hg
              subst hg
              exact TT_ret rfl rfl
def g_X9_clerkItem (n : Nat) (I : IH) : Option (Int32 × IH) :=
  bnd (I 68 1) fun x1 =>
  bnd ((8 + x1)) fun x2 =>
  match g_X9_figures n 3 I with
  | none => none
  | some (r6, J5) =>
    if r6 = 0 then
      some (0, J5)
    else
      bnd (J5 68 1) fun x8 =>
      if x8 = 8 then
        some (0, J5)
      else
        bnd (J5 80 0) fun x10 =>
        bnd (J5 57 1) fun x11 =>
        if x11 ≤ x10 then
          some (0, J5)
        else
          bnd (J5 80 1) fun x13 =>
          match g_X9_in n (Int32.toInt64 x13) 1 99 J5 with
          | none => none
          | some (r17, J16) =>
            if r17 = 0 then
              some (0, J16)
            else
              bnd (J16 80 2) fun x19 =>
              if x19 ≤ 99 then
                bnd (J16 80 0) fun x21 =>
                if inB x2 16 = true then
                  bnd (up2 J16 69 (Int32.toNatClampNeg x2) x21) fun J23 =>
                  bnd (J23 80 1) fun x24 =>
                  if inB x2 16 = true then
                    bnd (up2 J23 70 (Int32.toNatClampNeg x2) x24) fun J26 =>
                    bnd (J26 80 2) fun x27 =>
                    if inB x2 16 = true then
                      bnd (up2 J26 71 (Int32.toNatClampNeg x2) x27) fun J29 =>
                      bnd (J29 68 1) fun x30 =>
                      bnd (up2 J29 68 1 (x30 + 1)) fun J31 =>
                      some (1, J31)
                    else none
                  else none
                else none
              else
                some (0, J16)
set_option maxRecDepth 20000 in
theorem t_X9_clerkItem {p : Nat} {n : Nat} {I : IH} {w : Int32 × IH} (hg : g_X9_clerkItem n I = some w) : TT none mt_X9_clerkItem 0 (lv_args 0 [.ref 55]) [] (83, I, R0 p) (some (.int w.1)) (83, w.2, R0 p) := by
  unfold g_X9_clerkItem at hg
  obtain ⟨x1, hx1⟩ : ∃ x : Int32, x = (I 68 1) := ⟨_, rfl⟩
  replace hg := bnd_use hx1 hg
  refine TT_go 5 (pc' := 8) (lv' := [(0, .ref 55)]) (st' := [.int x1, .int 8]) (h2 := (83, I, R0 p)) (by subst hx1; rfl) ?_
  obtain ⟨x2, hx2⟩ : ∃ x : Int32, x = ((8 + x1)) := ⟨_, rfl⟩
  replace hg := bnd_use hx2 hg
  refine TT_go 2 (pc' := 10) (lv' := [(1, .int x2), (0, .ref 55)]) (st' := []) (h2 := (83, I, R0 p)) (by subst hx2; rfl) ?_
  refine TT_go 2 (pc' := 12) (lv' := [(1, .int x2), (0, .ref 55)]) (st' := [.int 3, .ref 55]) (h2 := (83, I, R0 p)) (by rfl) ?_
  cases hq3 : g_X9_figures n 3 I with
  | none => rw [hq3] at hg; cases hg
  | some w4 =>
    obtain ⟨r6, J5⟩ := w4
    rw [hq3] at hg
    dsimp only at hg
    refine TT_call (me' := mt_X9_figures) (as := [.ref 55, .int 3]) (rest := []) (r1 := some (.int r6)) (h1 := (83, J5, R0 p)) rfl rfl (by rfl) (t_X9_figures hq3) ?_
    refine TT_go 0 (pc' := 15) (lv' := [(1, .int x2), (0, .ref 55)]) (st' := [.int r6]) (h2 := (83, J5, R0 p)) (by rfl) ?_
    by_cases hc7 : r6 = 0
    · rw [if_pos hc7] at hg
      refine TT_zeq_t (t := 72) rfl rfl hc7 ?_
      refine TT_go 1 (pc' := 73) (lv' := [(1, .int x2), (0, .ref 55)]) (st' := [.int 0]) (h2 := (83, J5, R0 p)) (by rfl) ?_
      have hg := Option.some.inj hg
      subst hg
      exact TT_ret rfl rfl
    · rw [if_neg hc7] at hg
      refine TT_zeq_f (t := 72) rfl rfl hc7 ?_
      obtain ⟨x8, hx8⟩ : ∃ x : Int32, x = (J5 68 1) := ⟨_, rfl⟩
      replace hg := bnd_use hx8 hg
      refine TT_go 4 (pc' := 24) (lv' := [(1, .int x2), (0, .ref 55)]) (st' := [.int x8]) (h2 := (83, J5, R0 p)) (by subst hx8; rfl) ?_
      refine TT_go 1 (pc' := 26) (lv' := [(1, .int x2), (0, .ref 55)]) (st' := [.int 8, .int x8]) (h2 := (83, J5, R0 p)) (by rfl) ?_
      by_cases hc9 : x8 = 8
      · rw [if_pos hc9] at hg
        refine TT_ieq_t (t := 72) rfl rfl hc9 ?_
        refine TT_go 1 (pc' := 73) (lv' := [(1, .int x2), (0, .ref 55)]) (st' := [.int 0]) (h2 := (83, J5, R0 p)) (by rfl) ?_
        have hg := Option.some.inj hg
        subst hg
        exact TT_ret rfl rfl
      · rw [if_neg hc9] at hg
        refine TT_ieq_f (t := 72) rfl rfl hc9 ?_
        obtain ⟨x10, hx10⟩ : ∃ x : Int32, x = (J5 80 0) := ⟨_, rfl⟩
        replace hg := bnd_use hx10 hg
        refine TT_go 4 (pc' := 35) (lv' := [(1, .int x2), (0, .ref 55)]) (st' := [.int x10]) (h2 := (83, J5, R0 p)) (by subst hx10; rfl) ?_
        obtain ⟨x11, hx11⟩ : ∃ x : Int32, x = (J5 57 1) := ⟨_, rfl⟩
        replace hg := bnd_use hx11 hg
        refine TT_go 4 (pc' := 41) (lv' := [(1, .int x2), (0, .ref 55)]) (st' := [.int x11, .int x10]) (h2 := (83, J5, R0 p)) (by subst hx11; rfl) ?_
        by_cases hc12 : x11 ≤ x10
        · rw [if_pos hc12] at hg
          refine TT_ige_t (t := 72) rfl rfl hc12 ?_
          refine TT_go 1 (pc' := 73) (lv' := [(1, .int x2), (0, .ref 55)]) (st' := [.int 0]) (h2 := (83, J5, R0 p)) (by rfl) ?_
          have hg := Option.some.inj hg
          subst hg
          exact TT_ret rfl rfl
        · rw [if_neg hc12] at hg
          refine TT_ige_f (t := 72) rfl rfl hc12 ?_
          obtain ⟨x13, hx13⟩ : ∃ x : Int32, x = (J5 80 1) := ⟨_, rfl⟩
          replace hg := bnd_use hx13 hg
          refine TT_go 4 (pc' := 50) (lv' := [(1, .int x2), (0, .ref 55)]) (st' := [.int x13]) (h2 := (83, J5, R0 p)) (by subst hx13; rfl) ?_
          refine TT_go 3 (pc' := 55) (lv' := [(1, .int x2), (0, .ref 55)]) (st' := [.long 99, .long 1, .long (Int32.toInt64 x13)]) (h2 := (83, J5, R0 p)) (by rfl) ?_
          cases hq14 : g_X9_in n (Int32.toInt64 x13) 1 99 J5 with
          | none => rw [hq14] at hg; cases hg
          | some w15 =>
            obtain ⟨r17, J16⟩ := w15
            rw [hq14] at hg
            dsimp only at hg
            refine TT_call (me' := mt_X9_in) (as := [.long (Int32.toInt64 x13), .long 1, .long 99]) (rest := []) (r1 := some (.int r17)) (h1 := (83, J16, R0 p)) rfl rfl (by rfl) (t_X9_in hq14) ?_
            refine TT_go 0 (pc' := 58) (lv' := [(1, .int x2), (0, .ref 55)]) (st' := [.int r17]) (h2 := (83, J16, R0 p)) (by rfl) ?_
            by_cases hc18 : r17 = 0
            · rw [if_pos hc18] at hg
              refine TT_zeq_t (t := 72) rfl rfl hc18 ?_
              refine TT_go 1 (pc' := 73) (lv' := [(1, .int x2), (0, .ref 55)]) (st' := [.int 0]) (h2 := (83, J16, R0 p)) (by rfl) ?_
              have hg := Option.some.inj hg
              subst hg
              exact TT_ret rfl rfl
            · rw [if_neg hc18] at hg
              refine TT_zeq_f (t := 72) rfl rfl hc18 ?_
              obtain ⟨x19, hx19⟩ : ∃ x : Int32, x = (J16 80 2) := ⟨_, rfl⟩
              replace hg := bnd_use hx19 hg
              refine TT_go 4 (pc' := 67) (lv' := [(1, .int x2), (0, .ref 55)]) (st' := [.int x19]) (h2 := (83, J16, R0 p)) (by subst hx19; rfl) ?_
              refine TT_go 1 (pc' := 69) (lv' := [(1, .int x2), (0, .ref 55)]) (st' := [.int 99, .int x19]) (h2 := (83, J16, R0 p)) (by rfl) ?_
              by_cases hc20 : x19 ≤ 99
              · rw [if_pos hc20] at hg
                refine TT_ile_t (t := 74) rfl rfl hc20 ?_
                obtain ⟨x21, hx21⟩ : ∃ x : Int32, x = (J16 80 0) := ⟨_, rfl⟩
                replace hg := bnd_use hx21 hg
                refine TT_go 7 (pc' := 85) (lv' := [(1, .int x2), (0, .ref 55)]) (st' := [.int x21, .int x2, .ref 69]) (h2 := (83, J16, R0 p)) (by subst hx21; rfl) ?_
                by_cases hb22 : inB x2 16 = true
                rotate_left
                · rw [if_neg hb22] at hg; cases hg
                rw [if_pos hb22] at hg
                refine TT_iast (n := 16) rfl (by rfl) hb22 ?_
                obtain ⟨J23, hJ23⟩ : ∃ x : IH, x = (up2 J16 69 (Int32.toNatClampNeg x2) x21) := ⟨_, rfl⟩
                replace hg := bnd_use hJ23 hg
                refine TT_go 0 (pc' := 86) (lv' := [(1, .int x2), (0, .ref 55)]) (st' := []) (h2 := (83, J23, R0 p)) (by subst hJ23; rfl) ?_
                obtain ⟨x24, hx24⟩ : ∃ x : Int32, x = (J23 80 1) := ⟨_, rfl⟩
                replace hg := bnd_use hx24 hg
                refine TT_go 7 (pc' := 97) (lv' := [(1, .int x2), (0, .ref 55)]) (st' := [.int x24, .int x2, .ref 70]) (h2 := (83, J23, R0 p)) (by subst hx24; rfl) ?_
                by_cases hb25 : inB x2 16 = true
                rotate_left
                · rw [if_neg hb25] at hg; cases hg
                rw [if_pos hb25] at hg
                refine TT_iast (n := 16) rfl (by rfl) hb25 ?_
                obtain ⟨J26, hJ26⟩ : ∃ x : IH, x = (up2 J23 70 (Int32.toNatClampNeg x2) x24) := ⟨_, rfl⟩
                replace hg := bnd_use hJ26 hg
                refine TT_go 0 (pc' := 98) (lv' := [(1, .int x2), (0, .ref 55)]) (st' := []) (h2 := (83, J26, R0 p)) (by subst hJ26; rfl) ?_
                obtain ⟨x27, hx27⟩ : ∃ x : Int32, x = (J26 80 2) := ⟨_, rfl⟩
                replace hg := bnd_use hx27 hg
                refine TT_go 7 (pc' := 109) (lv' := [(1, .int x2), (0, .ref 55)]) (st' := [.int x27, .int x2, .ref 71]) (h2 := (83, J26, R0 p)) (by subst hx27; rfl) ?_
                by_cases hb28 : inB x2 16 = true
                rotate_left
                · rw [if_neg hb28] at hg; cases hg
                rw [if_pos hb28] at hg
                refine TT_iast (n := 16) rfl (by rfl) hb28 ?_
                obtain ⟨J29, hJ29⟩ : ∃ x : IH, x = (up2 J26 71 (Int32.toNatClampNeg x2) x27) := ⟨_, rfl⟩
                replace hg := bnd_use hJ29 hg
                refine TT_go 0 (pc' := 110) (lv' := [(1, .int x2), (0, .ref 55)]) (st' := []) (h2 := (83, J29, R0 p)) (by subst hJ29; rfl) ?_
                obtain ⟨x30, hx30⟩ : ∃ x : Int32, x = (J29 68 1) := ⟨_, rfl⟩
                replace hg := bnd_use hx30 hg
                refine TT_go 5 (pc' := 117) (lv' := [(1, .int x2), (0, .ref 55)]) (st' := [.int x30, .int 1, .ref 68]) (h2 := (83, J29, R0 p)) (by subst hx30; rfl) ?_
                obtain ⟨J31, hJ31⟩ : ∃ x : IH, x = (up2 J29 68 1 (x30 + 1)) := ⟨_, rfl⟩
                replace hg := bnd_use hJ31 hg
                refine TT_go 3 (pc' := 120) (lv' := [(1, .int x2), (0, .ref 55)]) (st' := []) (h2 := (83, J31, R0 p)) (by subst hJ31; rfl) ?_
                refine TT_go 1 (pc' := 121) (lv' := [(1, .int x2), (0, .ref 55)]) (st' := [.int 1]) (h2 := (83, J31, R0 p)) (by rfl) ?_
                have hg := Option.some.inj hg
                subst hg
                exact TT_ret rfl rfl
              · rw [if_neg hc20] at hg
                refine TT_ile_f (t := 74) rfl rfl hc20 ?_
                refine TT_go 1 (pc' := 73) (lv' := [(1, .int x2), (0, .ref 55)]) (st' := [.int 0]) (h2 := (83, J16, R0 p)) (by rfl) ?_
                have hg := Option.some.inj hg
                subst hg
                exact TT_ret rfl rfl
def g_X9_item (n : Nat) (I : IH) : Option (Int32 × IH) :=
  match g_X9_byteAt n (I 55 27) I with
  | none => none
  | some (r4, J3) =>
    bnd (up2 J3 55 27 ((J3 55 27) + 1)) fun J5 =>
    if r4 = 99 then
      match g_X9_clerkItem n J5 with
      | none => none
      | some (r10, J9) =>
        if r10 = 0 ∨ r10 = 1 then some (r10, J9) else none
    else if r4 = 103 then
      match g_X9_glassItem n J5 with
      | none => none
      | some (r16, J15) =>
        if r16 = 0 ∨ r16 = 1 then some (r16, J15) else none
    else if r4 = 112 then
      match g_X9_figures n 2 J5 with
      | none => none
      | some (r22, J21) =>
        if r22 = 0 then
          some (0, J21)
        else
          bnd (J21 80 0) fun x24 =>
          bnd (J21 57 1) fun x25 =>
          if x25 ≤ x24 then
            some (0, J21)
          else
            bnd (J21 80 1) fun x27 =>
            if x27 ≤ 5 then
              bnd (J21 80 0) fun x29 =>
              bnd (J21 80 1) fun x30 =>
              if inB (8 + x29) 16 = true then
                bnd (up2 J21 64 (Int32.toNatClampNeg (8 + x29)) x30) fun J32 =>
                some (1, J32)
              else none
            else
              some (0, J21)
    else if r4 = 114 then
      match g_X9_figures n 2 J5 with
      | none => none
      | some (r37, J36) =>
        if r37 = 0 then
          some (0, J36)
        else
          bnd (J36 80 0) fun x39 =>
          if 99 < x39 then
            some (0, J36)
          else
            bnd (J36 80 1) fun x41 =>
            if x41 ≤ 99 then
              bnd (J36 80 0) fun x43 =>
              bnd (up2 J36 72 1 x43) fun J44 =>
              bnd (J44 80 1) fun x45 =>
              bnd (up2 J44 73 1 x45) fun J46 =>
              some (1, J46)
            else
              some (0, J36)
    else if r4 = 121 then
      match g_X9_tieItem n J5 with
      | none => none
      | some (r51, J50) =>
        if r51 = 0 ∨ r51 = 1 then some (r51, J50) else none
    else
      some (0, J5)
set_option maxRecDepth 20000 in
theorem t_X9_item {p : Nat} {n : Nat} {I : IH} {w : Int32 × IH} (hg : g_X9_item n I = some w) : TT none mt_X9_item 0 (lv_args 0 [.ref 55]) [] (83, I, R0 p) (some (.int w.1)) (83, w.2, R0 p) := by
  unfold g_X9_item at hg
  refine TT_go 3 (pc' := 5) (lv' := [(0, .ref 55)]) (st' := [.int (I 55 27), .ref 55]) (h2 := (83, I, R0 p)) (by rfl) ?_
  cases hq1 : g_X9_byteAt n (I 55 27) I with
  | none => rw [hq1] at hg; cases hg
  | some w2 =>
    obtain ⟨r4, J3⟩ := w2
    rw [hq1] at hg
    dsimp only at hg
    refine TT_call (me' := mt_X9_byteAt) (as := [.ref 55, .int (I 55 27)]) (rest := []) (r1 := some (.int r4)) (h1 := (83, J3, R0 p)) rfl rfl (by rfl) (t_X9_byteAt hq1) ?_
    obtain ⟨J5, hJ5⟩ : ∃ x : IH, x = (up2 J3 55 27 ((J3 55 27) + 1)) := ⟨_, rfl⟩
    replace hg := bnd_use hJ5 hg
    refine TT_go 7 (pc' := 19) (lv' := [(1, .int r4), (0, .ref 55)]) (st' := []) (h2 := (83, J5, R0 p)) (by subst hJ5; rfl) ?_
    refine TT_go 1 (pc' := 20) (lv' := [(1, .int r4), (0, .ref 55)]) (st' := [.int r4]) (h2 := (83, J5, R0 p)) (by rfl) ?_
    by_cases hc6 : r4 = 99
    · rw [if_pos hc6] at hg
      refine TT_lsw (t := 82) (off := 62) rfl (by decide) (by rw [hc6]; rfl) rfl ?_
      refine TT_go 1 (pc' := 83) (lv' := [(1, .int r4), (0, .ref 55)]) (st' := [.ref 55]) (h2 := (83, J5, R0 p)) (by rfl) ?_
      cases hq7 : g_X9_clerkItem n J5 with
      | none => rw [hq7] at hg; cases hg
      | some w8 =>
        obtain ⟨r10, J9⟩ := w8
        rw [hq7] at hg
        dsimp only at hg
        refine TT_call (me' := mt_X9_clerkItem) (as := [.ref 55]) (rest := []) (r1 := some (.int r10)) (h1 := (83, J9, R0 p)) rfl rfl (by rfl) (t_X9_clerkItem hq7) ?_
        refine TT_go 0 (pc' := 86) (lv' := [(1, .int r4), (0, .ref 55)]) (st' := [.int r10]) (h2 := (83, J9, R0 p)) (by rfl) ?_
        by_cases hc11 : r10 = 0 ∨ r10 = 1
        rotate_left
        · rw [if_neg hc11] at hg; cases hg
        rw [if_pos hc11] at hg
        have hg := Option.some.inj hg
        subst hg
        exact TT_ret rfl (if_pos hc11)
    rw [if_neg hc6] at hg
    by_cases hc12 : r4 = 103
    · rw [if_pos hc12] at hg
      refine TT_lsw (t := 72) (off := 52) rfl (by decide) (by rw [hc12]; rfl) rfl ?_
      refine TT_go 1 (pc' := 73) (lv' := [(1, .int r4), (0, .ref 55)]) (st' := [.ref 55]) (h2 := (83, J5, R0 p)) (by rfl) ?_
      cases hq13 : g_X9_glassItem n J5 with
      | none => rw [hq13] at hg; cases hg
      | some w14 =>
        obtain ⟨r16, J15⟩ := w14
        rw [hq13] at hg
        dsimp only at hg
        refine TT_call (me' := mt_X9_glassItem) (as := [.ref 55]) (rest := []) (r1 := some (.int r16)) (h1 := (83, J15, R0 p)) rfl rfl (by rfl) (t_X9_glassItem hq13) ?_
        refine TT_go 0 (pc' := 76) (lv' := [(1, .int r4), (0, .ref 55)]) (st' := [.int r16]) (h2 := (83, J15, R0 p)) (by rfl) ?_
        by_cases hc17 : r16 = 0 ∨ r16 = 1
        rotate_left
        · rw [if_neg hc17] at hg; cases hg
        rw [if_pos hc17] at hg
        have hg := Option.some.inj hg
        subst hg
        exact TT_ret rfl (if_pos hc17)
    rw [if_neg hc12] at hg
    by_cases hc18 : r4 = 112
    · rw [if_pos hc18] at hg
      refine TT_lsw (t := 87) (off := 67) rfl (by decide) (by rw [hc18]; rfl) rfl ?_
      refine TT_go 2 (pc' := 89) (lv' := [(1, .int r4), (0, .ref 55)]) (st' := [.int 2, .ref 55]) (h2 := (83, J5, R0 p)) (by rfl) ?_
      cases hq19 : g_X9_figures n 2 J5 with
      | none => rw [hq19] at hg; cases hg
      | some w20 =>
        obtain ⟨r22, J21⟩ := w20
        rw [hq19] at hg
        dsimp only at hg
        refine TT_call (me' := mt_X9_figures) (as := [.ref 55, .int 2]) (rest := []) (r1 := some (.int r22)) (h1 := (83, J21, R0 p)) rfl rfl (by rfl) (t_X9_figures hq19) ?_
        refine TT_go 0 (pc' := 92) (lv' := [(1, .int r4), (0, .ref 55)]) (st' := [.int r22]) (h2 := (83, J21, R0 p)) (by rfl) ?_
        by_cases hc23 : r22 = 0
        · rw [if_pos hc23] at hg
          refine TT_zeq_t (t := 120) rfl rfl hc23 ?_
          refine TT_go 1 (pc' := 121) (lv' := [(1, .int r4), (0, .ref 55)]) (st' := [.int 0]) (h2 := (83, J21, R0 p)) (by rfl) ?_
          have hg := Option.some.inj hg
          subst hg
          exact TT_ret rfl rfl
        · rw [if_neg hc23] at hg
          refine TT_zeq_f (t := 120) rfl rfl hc23 ?_
          obtain ⟨x24, hx24⟩ : ∃ x : Int32, x = (J21 80 0) := ⟨_, rfl⟩
          replace hg := bnd_use hx24 hg
          refine TT_go 4 (pc' := 101) (lv' := [(1, .int r4), (0, .ref 55)]) (st' := [.int x24]) (h2 := (83, J21, R0 p)) (by subst hx24; rfl) ?_
          obtain ⟨x25, hx25⟩ : ∃ x : Int32, x = (J21 57 1) := ⟨_, rfl⟩
          replace hg := bnd_use hx25 hg
          refine TT_go 4 (pc' := 107) (lv' := [(1, .int r4), (0, .ref 55)]) (st' := [.int x25, .int x24]) (h2 := (83, J21, R0 p)) (by subst hx25; rfl) ?_
          by_cases hc26 : x25 ≤ x24
          · rw [if_pos hc26] at hg
            refine TT_ige_t (t := 120) rfl rfl hc26 ?_
            refine TT_go 1 (pc' := 121) (lv' := [(1, .int r4), (0, .ref 55)]) (st' := [.int 0]) (h2 := (83, J21, R0 p)) (by rfl) ?_
            have hg := Option.some.inj hg
            subst hg
            exact TT_ret rfl rfl
          · rw [if_neg hc26] at hg
            refine TT_ige_f (t := 120) rfl rfl hc26 ?_
            obtain ⟨x27, hx27⟩ : ∃ x : Int32, x = (J21 80 1) := ⟨_, rfl⟩
            replace hg := bnd_use hx27 hg
            refine TT_go 4 (pc' := 116) (lv' := [(1, .int r4), (0, .ref 55)]) (st' := [.int x27]) (h2 := (83, J21, R0 p)) (by subst hx27; rfl) ?_
            refine TT_go 1 (pc' := 117) (lv' := [(1, .int r4), (0, .ref 55)]) (st' := [.int 5, .int x27]) (h2 := (83, J21, R0 p)) (by rfl) ?_
            by_cases hc28 : x27 ≤ 5
            · rw [if_pos hc28] at hg
              refine TT_ile_t (t := 122) rfl rfl hc28 ?_
              obtain ⟨x29, hx29⟩ : ∃ x : Int32, x = (J21 80 0) := ⟨_, rfl⟩
              replace hg := bnd_use hx29 hg
              refine TT_go 7 (pc' := 134) (lv' := [(1, .int r4), (0, .ref 55)]) (st' := [.int x29, .int 8, .ref 64]) (h2 := (83, J21, R0 p)) (by subst hx29; rfl) ?_
              obtain ⟨x30, hx30⟩ : ∃ x : Int32, x = (J21 80 1) := ⟨_, rfl⟩
              replace hg := bnd_use hx30 hg
              refine TT_go 5 (pc' := 141) (lv' := [(1, .int r4), (0, .ref 55)]) (st' := [.int x30, .int (8 + x29), .ref 64]) (h2 := (83, J21, R0 p)) (by subst hx30; rfl) ?_
              by_cases hb31 : inB (8 + x29) 16 = true
              rotate_left
              · rw [if_neg hb31] at hg; cases hg
              rw [if_pos hb31] at hg
              refine TT_iast (n := 16) rfl (by rfl) hb31 ?_
              obtain ⟨J32, hJ32⟩ : ∃ x : IH, x = (up2 J21 64 (Int32.toNatClampNeg (8 + x29)) x30) := ⟨_, rfl⟩
              replace hg := bnd_use hJ32 hg
              refine TT_go 0 (pc' := 142) (lv' := [(1, .int r4), (0, .ref 55)]) (st' := []) (h2 := (83, J32, R0 p)) (by subst hJ32; rfl) ?_
              refine TT_go 1 (pc' := 143) (lv' := [(1, .int r4), (0, .ref 55)]) (st' := [.int 1]) (h2 := (83, J32, R0 p)) (by rfl) ?_
              have hg := Option.some.inj hg
              subst hg
              exact TT_ret rfl rfl
            · rw [if_neg hc28] at hg
              refine TT_ile_f (t := 122) rfl rfl hc28 ?_
              refine TT_go 1 (pc' := 121) (lv' := [(1, .int r4), (0, .ref 55)]) (st' := [.int 0]) (h2 := (83, J21, R0 p)) (by rfl) ?_
              have hg := Option.some.inj hg
              subst hg
              exact TT_ret rfl rfl
    rw [if_neg hc18] at hg
    by_cases hc33 : r4 = 114
    · rw [if_pos hc33] at hg
      refine TT_lsw (t := 144) (off := 124) rfl (by decide) (by rw [hc33]; rfl) rfl ?_
      refine TT_go 2 (pc' := 146) (lv' := [(1, .int r4), (0, .ref 55)]) (st' := [.int 2, .ref 55]) (h2 := (83, J5, R0 p)) (by rfl) ?_
      cases hq34 : g_X9_figures n 2 J5 with
      | none => rw [hq34] at hg; cases hg
      | some w35 =>
        obtain ⟨r37, J36⟩ := w35
        rw [hq34] at hg
        dsimp only at hg
        refine TT_call (me' := mt_X9_figures) (as := [.ref 55, .int 2]) (rest := []) (r1 := some (.int r37)) (h1 := (83, J36, R0 p)) rfl rfl (by rfl) (t_X9_figures hq34) ?_
        refine TT_go 0 (pc' := 149) (lv' := [(1, .int r4), (0, .ref 55)]) (st' := [.int r37]) (h2 := (83, J36, R0 p)) (by rfl) ?_
        by_cases hc38 : r37 = 0
        · rw [if_pos hc38] at hg
          refine TT_zeq_t (t := 174) rfl rfl hc38 ?_
          refine TT_go 1 (pc' := 175) (lv' := [(1, .int r4), (0, .ref 55)]) (st' := [.int 0]) (h2 := (83, J36, R0 p)) (by rfl) ?_
          have hg := Option.some.inj hg
          subst hg
          exact TT_ret rfl rfl
        · rw [if_neg hc38] at hg
          refine TT_zeq_f (t := 174) rfl rfl hc38 ?_
          obtain ⟨x39, hx39⟩ : ∃ x : Int32, x = (J36 80 0) := ⟨_, rfl⟩
          replace hg := bnd_use hx39 hg
          refine TT_go 4 (pc' := 158) (lv' := [(1, .int r4), (0, .ref 55)]) (st' := [.int x39]) (h2 := (83, J36, R0 p)) (by subst hx39; rfl) ?_
          refine TT_go 1 (pc' := 160) (lv' := [(1, .int r4), (0, .ref 55)]) (st' := [.int 99, .int x39]) (h2 := (83, J36, R0 p)) (by rfl) ?_
          by_cases hc40 : 99 < x39
          · rw [if_pos hc40] at hg
            refine TT_igt_t (t := 174) rfl rfl hc40 ?_
            refine TT_go 1 (pc' := 175) (lv' := [(1, .int r4), (0, .ref 55)]) (st' := [.int 0]) (h2 := (83, J36, R0 p)) (by rfl) ?_
            have hg := Option.some.inj hg
            subst hg
            exact TT_ret rfl rfl
          · rw [if_neg hc40] at hg
            refine TT_igt_f (t := 174) rfl rfl hc40 ?_
            obtain ⟨x41, hx41⟩ : ∃ x : Int32, x = (J36 80 1) := ⟨_, rfl⟩
            replace hg := bnd_use hx41 hg
            refine TT_go 4 (pc' := 169) (lv' := [(1, .int r4), (0, .ref 55)]) (st' := [.int x41]) (h2 := (83, J36, R0 p)) (by subst hx41; rfl) ?_
            refine TT_go 1 (pc' := 171) (lv' := [(1, .int r4), (0, .ref 55)]) (st' := [.int 99, .int x41]) (h2 := (83, J36, R0 p)) (by rfl) ?_
            by_cases hc42 : x41 ≤ 99
            · rw [if_pos hc42] at hg
              refine TT_ile_t (t := 176) rfl rfl hc42 ?_
              obtain ⟨x43, hx43⟩ : ∃ x : Int32, x = (J36 80 0) := ⟨_, rfl⟩
              replace hg := bnd_use hx43 hg
              refine TT_go 7 (pc' := 187) (lv' := [(1, .int r4), (0, .ref 55)]) (st' := [.int x43, .int 1, .ref 72]) (h2 := (83, J36, R0 p)) (by subst hx43; rfl) ?_
              obtain ⟨J44, hJ44⟩ : ∃ x : IH, x = (up2 J36 72 1 x43) := ⟨_, rfl⟩
              replace hg := bnd_use hJ44 hg
              refine TT_go 1 (pc' := 188) (lv' := [(1, .int r4), (0, .ref 55)]) (st' := []) (h2 := (83, J44, R0 p)) (by subst hJ44; rfl) ?_
              obtain ⟨x45, hx45⟩ : ∃ x : Int32, x = (J44 80 1) := ⟨_, rfl⟩
              replace hg := bnd_use hx45 hg
              refine TT_go 7 (pc' := 199) (lv' := [(1, .int r4), (0, .ref 55)]) (st' := [.int x45, .int 1, .ref 73]) (h2 := (83, J44, R0 p)) (by subst hx45; rfl) ?_
              obtain ⟨J46, hJ46⟩ : ∃ x : IH, x = (up2 J44 73 1 x45) := ⟨_, rfl⟩
              replace hg := bnd_use hJ46 hg
              refine TT_go 1 (pc' := 200) (lv' := [(1, .int r4), (0, .ref 55)]) (st' := []) (h2 := (83, J46, R0 p)) (by subst hJ46; rfl) ?_
              refine TT_go 1 (pc' := 201) (lv' := [(1, .int r4), (0, .ref 55)]) (st' := [.int 1]) (h2 := (83, J46, R0 p)) (by rfl) ?_
              have hg := Option.some.inj hg
              subst hg
              exact TT_ret rfl rfl
            · rw [if_neg hc42] at hg
              refine TT_ile_f (t := 176) rfl rfl hc42 ?_
              refine TT_go 1 (pc' := 175) (lv' := [(1, .int r4), (0, .ref 55)]) (st' := [.int 0]) (h2 := (83, J36, R0 p)) (by rfl) ?_
              have hg := Option.some.inj hg
              subst hg
              exact TT_ret rfl rfl
    rw [if_neg hc33] at hg
    by_cases hc47 : r4 = 121
    · rw [if_pos hc47] at hg
      refine TT_lsw (t := 77) (off := 57) rfl (by decide) (by rw [hc47]; rfl) rfl ?_
      refine TT_go 1 (pc' := 78) (lv' := [(1, .int r4), (0, .ref 55)]) (st' := [.ref 55]) (h2 := (83, J5, R0 p)) (by rfl) ?_
      cases hq48 : g_X9_tieItem n J5 with
      | none => rw [hq48] at hg; cases hg
      | some w49 =>
        obtain ⟨r51, J50⟩ := w49
        rw [hq48] at hg
        dsimp only at hg
        refine TT_call (me' := mt_X9_tieItem) (as := [.ref 55]) (rest := []) (r1 := some (.int r51)) (h1 := (83, J50, R0 p)) rfl rfl (by rfl) (t_X9_tieItem hq48) ?_
        refine TT_go 0 (pc' := 81) (lv' := [(1, .int r4), (0, .ref 55)]) (st' := [.int r51]) (h2 := (83, J50, R0 p)) (by rfl) ?_
        by_cases hc52 : r51 = 0 ∨ r51 = 1
        rotate_left
        · rw [if_neg hc52] at hg; cases hg
        rw [if_pos hc52] at hg
        have hg := Option.some.inj hg
        subst hg
        exact TT_ret rfl (if_pos hc52)
    rw [if_neg hc47] at hg
    refine TT_lsw (t := 202) (off := 182) rfl (by decide) (by rw [lv_osw (k := 99) hc6 (by decide), lv_osw (k := 103) hc12 (by decide), lv_osw (k := 112) hc18 (by decide), lv_osw (k := 114) hc33 (by decide), lv_osw (k := 121) hc47 (by decide)]; rfl) rfl ?_
    refine TT_go 1 (pc' := 203) (lv' := [(1, .int r4), (0, .ref 55)]) (st' := [.int 0]) (h2 := (83, J5, R0 p)) (by rfl) ?_
    have hg := Option.some.inj hg
    subst hg
    exact TT_ret rfl rfl
def g_X9_readAll_10 : Nat → IH → Option (Int32 × IH)
  | 0, _ => none
  | n + 1, I =>
    if (I 55 0) ≤ (I 55 27) then
      some ((-4), I)
    else
      bnd ((I 55 27)) fun x6 =>
      match g_X9_item n I with
      | none => none
      | some (r10, J9) =>
        if r10 = 0 then
          some (x6, J9)
        else
          g_X9_readAll_10 n J9
set_option maxRecDepth 20000 in
theorem t_X9_readAll_10 {p : Nat} : ∀ (n : Nat) (I : IH) (w : Int32 × IH), g_X9_readAll_10 n I = some w → TT none mt_X9_readAll 10 [(0, .ref 55)] [] (83, I, R0 p) (some (.int w.1)) (83, w.2, R0 p) := by
  intro n
  induction n with
  | zero => intro I w hg; cases hg
  | succ n ih =>
    intro I w hg
    unfold g_X9_readAll_10 at hg
    refine TT_go 4 (pc' := 18) (lv' := [(0, .ref 55)]) (st' := [.int (I 55 0), .int (I 55 27)]) (h2 := (83, I, R0 p)) (by rfl) ?_
    by_cases hc5 : (I 55 0) ≤ (I 55 27)
    · rw [if_pos hc5] at hg
      refine TT_ige_t (t := 38) rfl rfl hc5 ?_
      refine TT_go 1 (pc' := 40) (lv' := [(0, .ref 55)]) (st' := [.int (-4)]) (h2 := (83, I, R0 p)) (by rfl) ?_
      have hg := Option.some.inj hg
      subst hg
      exact TT_ret rfl rfl
    · rw [if_neg hc5] at hg
      refine TT_ige_f (t := 38) rfl rfl hc5 ?_
      obtain ⟨x6, hx6⟩ : ∃ x : Int32, x = ((I 55 27)) := ⟨_, rfl⟩
      replace hg := bnd_use hx6 hg
      refine TT_go 3 (pc' := 26) (lv' := [(1, .int x6), (0, .ref 55)]) (st' := []) (h2 := (83, I, R0 p)) (by subst hx6; rfl) ?_
      refine TT_go 1 (pc' := 27) (lv' := [(1, .int x6), (0, .ref 55)]) (st' := [.ref 55]) (h2 := (83, I, R0 p)) (by rfl) ?_
      cases hq7 : g_X9_item n I with
      | none => rw [hq7] at hg; cases hg
      | some w8 =>
        obtain ⟨r10, J9⟩ := w8
        rw [hq7] at hg
        dsimp only at hg
        refine TT_call (me' := mt_X9_item) (as := [.ref 55]) (rest := []) (r1 := some (.int r10)) (h1 := (83, J9, R0 p)) rfl rfl (by rfl) (t_X9_item hq7) ?_
        refine TT_go 0 (pc' := 30) (lv' := [(1, .int x6), (0, .ref 55)]) (st' := [.int r10]) (h2 := (83, J9, R0 p)) (by rfl) ?_
        by_cases hc11 : r10 = 0
        · rw [if_pos hc11] at hg
          refine TT_zne_f (t := 35) rfl rfl hc11 ?_
          refine TT_go 1 (pc' := 34) (lv' := [(1, .int x6), (0, .ref 55)]) (st' := [.int x6]) (h2 := (83, J9, R0 p)) (by rfl) ?_
          have hg := Option.some.inj hg
          subst hg
          exact TT_ret rfl rfl
        · rw [if_neg hc11] at hg
          refine TT_zne_t (t := 35) rfl rfl hc11 ?_
          refine TT_go 1 (pc' := 10) (lv' := [(1, .int x6), (0, .ref 55)]) (st' := []) (h2 := (83, J9, R0 p)) (by rfl) ?_
          refine TT_sub (lv2 := [(0, .ref 55)]) rfl rfl ⟨rfl, trivial⟩ ?_
          exact ih _ _ hg
def g_X9_readAll (n : Nat) (I : IH) : Option (Int32 × IH) :=
  match g_X9_noShelf n 1 I with
  | none => none
  | some J3 =>
    bnd (up2 J3 55 27 0) fun J4 =>
    g_X9_readAll_10 n J4
set_option maxRecDepth 20000 in
theorem t_X9_readAll {p : Nat} {n : Nat} {I : IH} {w : Int32 × IH} (hg : g_X9_readAll n I = some w) : TT none mt_X9_readAll 0 (lv_args 0 [.ref 55]) [] (83, I, R0 p) (some (.int w.1)) (83, w.2, R0 p) := by
  unfold g_X9_readAll at hg
  refine TT_go 2 (pc' := 2) (lv' := [(0, .ref 55)]) (st' := [.int 1, .ref 55]) (h2 := (83, I, R0 p)) (by rfl) ?_
  cases hq1 : g_X9_noShelf n 1 I with
  | none => rw [hq1] at hg; cases hg
  | some w2 =>
    obtain ⟨J3, hJ3⟩ : ∃ J, J = w2 := ⟨_, rfl⟩
    rw [← hJ3] at hq1
    rw [hq1] at hg
    dsimp only at hg
    refine TT_call (me' := mt_X9_noShelf) (as := [.ref 55, .int 1]) (rest := []) (r1 := none) (h1 := (83, J3, R0 p)) rfl rfl (by rfl) (t_X9_noShelf hq1) ?_
    obtain ⟨J4, hJ4⟩ : ∃ x : IH, x = (up2 J3 55 27 0) := ⟨_, rfl⟩
    replace hg := bnd_use hJ4 hg
    refine TT_go 3 (pc' := 10) (lv' := [(0, .ref 55)]) (st' := []) (h2 := (83, J4, R0 p)) (by subst hJ4; rfl) ?_
    refine TT_sub (lv2 := [(0, .ref 55)]) rfl rfl ⟨rfl, trivial⟩ ?_
    exact t_X9_readAll_10 n _ _ hg
def g_X9_fault (n : Nat) (I : IH) : Option (Int32 × IH) :=
  match g_X9_readAll n I with
  | none => none
  | some (r4, J3) =>
    some (r4, J3)
set_option maxRecDepth 20000 in
theorem t_X9_fault {p : Nat} {n : Nat} {I : IH} {w : Int32 × IH} (hg : g_X9_fault n I = some w) : TT none mt_X9_fault 0 (lv_args 0 [.ref 55]) [] (83, I, R0 p) (some (.int w.1)) (83, w.2, R0 p) := by
  unfold g_X9_fault at hg
  refine TT_go 1 (pc' := 1) (lv' := [(0, .ref 55)]) (st' := [.ref 55]) (h2 := (83, I, R0 p)) (by rfl) ?_
  cases hq1 : g_X9_readAll n I with
  | none => rw [hq1] at hg; cases hg
  | some w2 =>
    obtain ⟨r4, J3⟩ := w2
    rw [hq1] at hg
    dsimp only at hg
    refine TT_call (me' := mt_X9_readAll) (as := [.ref 55]) (rest := []) (r1 := some (.int r4)) (h1 := (83, J3, R0 p)) rfl rfl (by rfl) (t_X9_readAll hq1) ?_
    refine TT_go 0 (pc' := 4) (lv' := [(0, .ref 55)]) (st' := [.int r4]) (h2 := (83, J3, R0 p)) (by rfl) ?_
    have hg := Option.some.inj hg
    subst hg
    exact TT_ret rfl rfl
def g_X9_lay_247 : Nat → Int32 → IH → Option (Int32 × IH)
  | 0, _, _ => none
  | n + 1, v1, I =>
    if 16 ≤ v1 then
      match g_X9_layShelf n I with
      | none => none
      | some J22 =>
        bnd (J22 57 0) fun x23 =>
        some (x23, J22)
    else
      if inB v1 16 = true then
        bnd (I 67 (Int32.toNatClampNeg v1)) fun x25 =>
        if inB v1 16 = true then
          bnd (up2 I 66 (Int32.toNatClampNeg v1) x25) fun J27 =>
          bnd (v1 + 1) fun x28 =>
          g_X9_lay_247 n x28 J27
        else none
      else none
set_option maxRecDepth 20000 in
theorem t_X9_lay_247 {p : Nat} : ∀ (n : Nat) (v1 : Int32) (I : IH) (w : Int32 × IH), g_X9_lay_247 n v1 I = some w → TT none mt_X9_lay 247 [(0, .ref 55), (1, .int v1)] [] (83, I, R0 p) (some (.int w.1)) (83, w.2, R0 p) := by
  intro n
  induction n with
  | zero => intro v1 I w hg; cases hg
  | succ n ih =>
    intro v1 I w hg
    unfold g_X9_lay_247 at hg
    refine TT_go 2 (pc' := 250) (lv' := [(0, .ref 55), (1, .int v1)]) (st' := [.int 16, .int v1]) (h2 := (83, I, R0 p)) (by rfl) ?_
    by_cases hc19 : 16 ≤ v1
    · rw [if_pos hc19] at hg
      refine TT_ige_t (t := 271) rfl rfl hc19 ?_
      refine TT_go 1 (pc' := 272) (lv' := [(0, .ref 55), (1, .int v1)]) (st' := [.ref 55]) (h2 := (83, I, R0 p)) (by rfl) ?_
      cases hq20 : g_X9_layShelf n I with
      | none => rw [hq20] at hg; cases hg
      | some w21 =>
        obtain ⟨J22, hJ22⟩ : ∃ J, J = w21 := ⟨_, rfl⟩
        rw [← hJ22] at hq20
        rw [hq20] at hg
        dsimp only at hg
        refine TT_call (me' := mt_X9_layShelf) (as := [.ref 55]) (rest := []) (r1 := none) (h1 := (83, J22, R0 p)) rfl rfl (by rfl) (t_X9_layShelf hq20) ?_
        obtain ⟨x23, hx23⟩ : ∃ x : Int32, x = (J22 57 0) := ⟨_, rfl⟩
        replace hg := bnd_use hx23 hg
        refine TT_go 4 (pc' := 281) (lv' := [(0, .ref 55), (1, .int v1)]) (st' := [.int x23]) (h2 := (83, J22, R0 p)) (by subst hx23; rfl) ?_
        have hg := Option.some.inj hg
        subst hg
        exact TT_ret rfl rfl
    · rw [if_neg hc19] at hg
      refine TT_ige_f (t := 271) rfl rfl hc19 ?_
      refine TT_go 6 (pc' := 263) (lv' := [(0, .ref 55), (1, .int v1)]) (st' := [.int v1, .ref 67, .int v1, .ref 66]) (h2 := (83, I, R0 p)) (by rfl) ?_
      by_cases hb24 : inB v1 16 = true
      rotate_left
      · rw [if_neg hb24] at hg; cases hg
      rw [if_pos hb24] at hg
      refine TT_iald (n := 16) rfl (by rfl) hb24 ?_
      obtain ⟨x25, hx25⟩ : ∃ x : Int32, x = (I 67 (Int32.toNatClampNeg v1)) := ⟨_, rfl⟩
      replace hg := bnd_use hx25 hg
      refine TT_go 0 (pc' := 264) (lv' := [(0, .ref 55), (1, .int v1)]) (st' := [.int x25, .int v1, .ref 66]) (h2 := (83, I, R0 p)) (by subst hx25; rfl) ?_
      by_cases hb26 : inB v1 16 = true
      rotate_left
      · rw [if_neg hb26] at hg; cases hg
      rw [if_pos hb26] at hg
      refine TT_iast (n := 16) rfl (by rfl) hb26 ?_
      obtain ⟨J27, hJ27⟩ : ∃ x : IH, x = (up2 I 66 (Int32.toNatClampNeg v1) x25) := ⟨_, rfl⟩
      replace hg := bnd_use hJ27 hg
      refine TT_go 0 (pc' := 265) (lv' := [(0, .ref 55), (1, .int v1)]) (st' := []) (h2 := (83, J27, R0 p)) (by subst hJ27; rfl) ?_
      obtain ⟨x28, hx28⟩ : ∃ x : Int32, x = (v1 + 1) := ⟨_, rfl⟩
      replace hg := bnd_use hx28 hg
      refine TT_go 1 (pc' := 268) (lv' := [(1, .int x28), (0, .ref 55)]) (st' := []) (h2 := (83, J27, R0 p)) (by subst hx28; rfl) ?_
      refine TT_go 1 (pc' := 247) (lv' := [(1, .int x28), (0, .ref 55)]) (st' := []) (h2 := (83, J27, R0 p)) (by rfl) ?_
      refine TT_sub (lv2 := [(0, .ref 55), (1, .int x28)]) rfl rfl ⟨rfl, rfl, trivial⟩ ?_
      exact ih x28 _ _ hg
def g_X9_lay_83 : Nat → Int32 → IH → Option (Int32 × IH)
  | 0, _, _ => none
  | n + 1, v1, I =>
    if 8 ≤ v1 then
      g_X9_lay_247 n 0 I
    else
      if inB (8 + v1) 16 = true then
        bnd (I 58 (Int32.toNatClampNeg (8 + v1))) fun x30 =>
        if inB v1 16 = true then
          bnd (up2 I 58 (Int32.toNatClampNeg v1) x30) fun J32 =>
          if inB (8 + v1) 16 = true then
            bnd (J32 59 (Int32.toNatClampNeg (8 + v1))) fun x34 =>
            if inB v1 16 = true then
              bnd (up2 J32 59 (Int32.toNatClampNeg v1) x34) fun J36 =>
              if inB (8 + v1) 16 = true then
                bnd (J36 60 (Int32.toNatClampNeg (8 + v1))) fun x38 =>
                if inB v1 16 = true then
                  bnd (up2 J36 60 (Int32.toNatClampNeg v1) x38) fun J40 =>
                  if inB (8 + v1) 16 = true then
                    bnd (J40 61 (Int32.toNatClampNeg (8 + v1))) fun x42 =>
                    if inB v1 16 = true then
                      bnd (up2 J40 61 (Int32.toNatClampNeg v1) x42) fun J44 =>
                      if inB (8 + v1) 16 = true then
                        bnd (J44 62 (Int32.toNatClampNeg (8 + v1))) fun x46 =>
                        if inB v1 16 = true then
                          bnd (up2 J44 62 (Int32.toNatClampNeg v1) x46) fun J48 =>
                          if inB (8 + v1) 16 = true then
                            bnd (J48 63 (Int32.toNatClampNeg (8 + v1))) fun x50 =>
                            if inB v1 16 = true then
                              bnd (up2 J48 63 (Int32.toNatClampNeg v1) x50) fun J52 =>
                              if inB (8 + v1) 16 = true then
                                bnd (J52 64 (Int32.toNatClampNeg (8 + v1))) fun x54 =>
                                if inB v1 16 = true then
                                  bnd (up2 J52 64 (Int32.toNatClampNeg v1) x54) fun J56 =>
                                  if inB (8 + v1) 16 = true then
                                    bnd (J56 69 (Int32.toNatClampNeg (8 + v1))) fun x58 =>
                                    if inB v1 16 = true then
                                      bnd (up2 J56 69 (Int32.toNatClampNeg v1) x58) fun J60 =>
                                      if inB (8 + v1) 16 = true then
                                        bnd (J60 70 (Int32.toNatClampNeg (8 + v1))) fun x62 =>
                                        if inB v1 16 = true then
                                          bnd (up2 J60 70 (Int32.toNatClampNeg v1) x62) fun J64 =>
                                          if inB (8 + v1) 16 = true then
                                            bnd (J64 71 (Int32.toNatClampNeg (8 + v1))) fun x66 =>
                                            if inB v1 16 = true then
                                              bnd (up2 J64 71 (Int32.toNatClampNeg v1) x66) fun J68 =>
                                              bnd (v1 + 1) fun x69 =>
                                              g_X9_lay_83 n x69 J68
                                            else none
                                          else none
                                        else none
                                      else none
                                    else none
                                  else none
                                else none
                              else none
                            else none
                          else none
                        else none
                      else none
                    else none
                  else none
                else none
              else none
            else none
          else none
        else none
      else none
set_option maxRecDepth 20000 in
theorem t_X9_lay_83 {p : Nat} : ∀ (n : Nat) (v1 : Int32) (I : IH) (w : Int32 × IH), g_X9_lay_83 n v1 I = some w → TT none mt_X9_lay 83 [(0, .ref 55), (1, .int v1)] [] (83, I, R0 p) (some (.int w.1)) (83, w.2, R0 p) := by
  intro n
  induction n with
  | zero => intro v1 I w hg; cases hg
  | succ n ih =>
    intro v1 I w hg
    unfold g_X9_lay_83 at hg
    refine TT_go 2 (pc' := 86) (lv' := [(0, .ref 55), (1, .int v1)]) (st' := [.int 8, .int v1]) (h2 := (83, I, R0 p)) (by rfl) ?_
    by_cases hc18 : 8 ≤ v1
    · rw [if_pos hc18] at hg
      refine TT_ige_t (t := 245) rfl rfl hc18 ?_
      refine TT_go 2 (pc' := 247) (lv' := [(1, .int 0), (0, .ref 55)]) (st' := []) (h2 := (83, I, R0 p)) (by rfl) ?_
      refine TT_sub (lv2 := [(0, .ref 55), (1, .int 0)]) rfl rfl ⟨rfl, rfl, trivial⟩ ?_
      exact t_X9_lay_247 n 0 _ _ hg
    · rw [if_neg hc18] at hg
      refine TT_ige_f (t := 245) rfl rfl hc18 ?_
      refine TT_go 8 (pc' := 102) (lv' := [(0, .ref 55), (1, .int v1)]) (st' := [.int (8 + v1), .ref 58, .int v1, .ref 58]) (h2 := (83, I, R0 p)) (by rfl) ?_
      by_cases hb29 : inB (8 + v1) 16 = true
      rotate_left
      · rw [if_neg hb29] at hg; cases hg
      rw [if_pos hb29] at hg
      refine TT_iald (n := 16) rfl (by rfl) hb29 ?_
      obtain ⟨x30, hx30⟩ : ∃ x : Int32, x = (I 58 (Int32.toNatClampNeg (8 + v1))) := ⟨_, rfl⟩
      replace hg := bnd_use hx30 hg
      refine TT_go 0 (pc' := 103) (lv' := [(0, .ref 55), (1, .int v1)]) (st' := [.int x30, .int v1, .ref 58]) (h2 := (83, I, R0 p)) (by subst hx30; rfl) ?_
      by_cases hb31 : inB v1 16 = true
      rotate_left
      · rw [if_neg hb31] at hg; cases hg
      rw [if_pos hb31] at hg
      refine TT_iast (n := 16) rfl (by rfl) hb31 ?_
      obtain ⟨J32, hJ32⟩ : ∃ x : IH, x = (up2 I 58 (Int32.toNatClampNeg v1) x30) := ⟨_, rfl⟩
      replace hg := bnd_use hJ32 hg
      refine TT_go 0 (pc' := 104) (lv' := [(0, .ref 55), (1, .int v1)]) (st' := []) (h2 := (83, J32, R0 p)) (by subst hJ32; rfl) ?_
      refine TT_go 8 (pc' := 117) (lv' := [(0, .ref 55), (1, .int v1)]) (st' := [.int (8 + v1), .ref 59, .int v1, .ref 59]) (h2 := (83, J32, R0 p)) (by rfl) ?_
      by_cases hb33 : inB (8 + v1) 16 = true
      rotate_left
      · rw [if_neg hb33] at hg; cases hg
      rw [if_pos hb33] at hg
      refine TT_iald (n := 16) rfl (by rfl) hb33 ?_
      obtain ⟨x34, hx34⟩ : ∃ x : Int32, x = (J32 59 (Int32.toNatClampNeg (8 + v1))) := ⟨_, rfl⟩
      replace hg := bnd_use hx34 hg
      refine TT_go 0 (pc' := 118) (lv' := [(0, .ref 55), (1, .int v1)]) (st' := [.int x34, .int v1, .ref 59]) (h2 := (83, J32, R0 p)) (by subst hx34; rfl) ?_
      by_cases hb35 : inB v1 16 = true
      rotate_left
      · rw [if_neg hb35] at hg; cases hg
      rw [if_pos hb35] at hg
      refine TT_iast (n := 16) rfl (by rfl) hb35 ?_
      obtain ⟨J36, hJ36⟩ : ∃ x : IH, x = (up2 J32 59 (Int32.toNatClampNeg v1) x34) := ⟨_, rfl⟩
      replace hg := bnd_use hJ36 hg
      refine TT_go 0 (pc' := 119) (lv' := [(0, .ref 55), (1, .int v1)]) (st' := []) (h2 := (83, J36, R0 p)) (by subst hJ36; rfl) ?_
      refine TT_go 8 (pc' := 132) (lv' := [(0, .ref 55), (1, .int v1)]) (st' := [.int (8 + v1), .ref 60, .int v1, .ref 60]) (h2 := (83, J36, R0 p)) (by rfl) ?_
      by_cases hb37 : inB (8 + v1) 16 = true
      rotate_left
      · rw [if_neg hb37] at hg; cases hg
      rw [if_pos hb37] at hg
      refine TT_iald (n := 16) rfl (by rfl) hb37 ?_
      obtain ⟨x38, hx38⟩ : ∃ x : Int32, x = (J36 60 (Int32.toNatClampNeg (8 + v1))) := ⟨_, rfl⟩
      replace hg := bnd_use hx38 hg
      refine TT_go 0 (pc' := 133) (lv' := [(0, .ref 55), (1, .int v1)]) (st' := [.int x38, .int v1, .ref 60]) (h2 := (83, J36, R0 p)) (by subst hx38; rfl) ?_
      by_cases hb39 : inB v1 16 = true
      rotate_left
      · rw [if_neg hb39] at hg; cases hg
      rw [if_pos hb39] at hg
      refine TT_iast (n := 16) rfl (by rfl) hb39 ?_
      obtain ⟨J40, hJ40⟩ : ∃ x : IH, x = (up2 J36 60 (Int32.toNatClampNeg v1) x38) := ⟨_, rfl⟩
      replace hg := bnd_use hJ40 hg
      refine TT_go 0 (pc' := 134) (lv' := [(0, .ref 55), (1, .int v1)]) (st' := []) (h2 := (83, J40, R0 p)) (by subst hJ40; rfl) ?_
      refine TT_go 8 (pc' := 147) (lv' := [(0, .ref 55), (1, .int v1)]) (st' := [.int (8 + v1), .ref 61, .int v1, .ref 61]) (h2 := (83, J40, R0 p)) (by rfl) ?_
      by_cases hb41 : inB (8 + v1) 16 = true
      rotate_left
      · rw [if_neg hb41] at hg; cases hg
      rw [if_pos hb41] at hg
      refine TT_iald (n := 16) rfl (by rfl) hb41 ?_
      obtain ⟨x42, hx42⟩ : ∃ x : Int32, x = (J40 61 (Int32.toNatClampNeg (8 + v1))) := ⟨_, rfl⟩
      replace hg := bnd_use hx42 hg
      refine TT_go 0 (pc' := 148) (lv' := [(0, .ref 55), (1, .int v1)]) (st' := [.int x42, .int v1, .ref 61]) (h2 := (83, J40, R0 p)) (by subst hx42; rfl) ?_
      by_cases hb43 : inB v1 16 = true
      rotate_left
      · rw [if_neg hb43] at hg; cases hg
      rw [if_pos hb43] at hg
      refine TT_iast (n := 16) rfl (by rfl) hb43 ?_
      obtain ⟨J44, hJ44⟩ : ∃ x : IH, x = (up2 J40 61 (Int32.toNatClampNeg v1) x42) := ⟨_, rfl⟩
      replace hg := bnd_use hJ44 hg
      refine TT_go 0 (pc' := 149) (lv' := [(0, .ref 55), (1, .int v1)]) (st' := []) (h2 := (83, J44, R0 p)) (by subst hJ44; rfl) ?_
      refine TT_go 8 (pc' := 162) (lv' := [(0, .ref 55), (1, .int v1)]) (st' := [.int (8 + v1), .ref 62, .int v1, .ref 62]) (h2 := (83, J44, R0 p)) (by rfl) ?_
      by_cases hb45 : inB (8 + v1) 16 = true
      rotate_left
      · rw [if_neg hb45] at hg; cases hg
      rw [if_pos hb45] at hg
      refine TT_iald (n := 16) rfl (by rfl) hb45 ?_
      obtain ⟨x46, hx46⟩ : ∃ x : Int32, x = (J44 62 (Int32.toNatClampNeg (8 + v1))) := ⟨_, rfl⟩
      replace hg := bnd_use hx46 hg
      refine TT_go 0 (pc' := 163) (lv' := [(0, .ref 55), (1, .int v1)]) (st' := [.int x46, .int v1, .ref 62]) (h2 := (83, J44, R0 p)) (by subst hx46; rfl) ?_
      by_cases hb47 : inB v1 16 = true
      rotate_left
      · rw [if_neg hb47] at hg; cases hg
      rw [if_pos hb47] at hg
      refine TT_iast (n := 16) rfl (by rfl) hb47 ?_
      obtain ⟨J48, hJ48⟩ : ∃ x : IH, x = (up2 J44 62 (Int32.toNatClampNeg v1) x46) := ⟨_, rfl⟩
      replace hg := bnd_use hJ48 hg
      refine TT_go 0 (pc' := 164) (lv' := [(0, .ref 55), (1, .int v1)]) (st' := []) (h2 := (83, J48, R0 p)) (by subst hJ48; rfl) ?_
      refine TT_go 8 (pc' := 177) (lv' := [(0, .ref 55), (1, .int v1)]) (st' := [.int (8 + v1), .ref 63, .int v1, .ref 63]) (h2 := (83, J48, R0 p)) (by rfl) ?_
      by_cases hb49 : inB (8 + v1) 16 = true
      rotate_left
      · rw [if_neg hb49] at hg; cases hg
      rw [if_pos hb49] at hg
      refine TT_iald (n := 16) rfl (by rfl) hb49 ?_
      obtain ⟨x50, hx50⟩ : ∃ x : Int32, x = (J48 63 (Int32.toNatClampNeg (8 + v1))) := ⟨_, rfl⟩
      replace hg := bnd_use hx50 hg
      refine TT_go 0 (pc' := 178) (lv' := [(0, .ref 55), (1, .int v1)]) (st' := [.int x50, .int v1, .ref 63]) (h2 := (83, J48, R0 p)) (by subst hx50; rfl) ?_
      by_cases hb51 : inB v1 16 = true
      rotate_left
      · rw [if_neg hb51] at hg; cases hg
      rw [if_pos hb51] at hg
      refine TT_iast (n := 16) rfl (by rfl) hb51 ?_
      obtain ⟨J52, hJ52⟩ : ∃ x : IH, x = (up2 J48 63 (Int32.toNatClampNeg v1) x50) := ⟨_, rfl⟩
      replace hg := bnd_use hJ52 hg
      refine TT_go 0 (pc' := 179) (lv' := [(0, .ref 55), (1, .int v1)]) (st' := []) (h2 := (83, J52, R0 p)) (by subst hJ52; rfl) ?_
      refine TT_go 8 (pc' := 192) (lv' := [(0, .ref 55), (1, .int v1)]) (st' := [.int (8 + v1), .ref 64, .int v1, .ref 64]) (h2 := (83, J52, R0 p)) (by rfl) ?_
      by_cases hb53 : inB (8 + v1) 16 = true
      rotate_left
      · rw [if_neg hb53] at hg; cases hg
      rw [if_pos hb53] at hg
      refine TT_iald (n := 16) rfl (by rfl) hb53 ?_
      obtain ⟨x54, hx54⟩ : ∃ x : Int32, x = (J52 64 (Int32.toNatClampNeg (8 + v1))) := ⟨_, rfl⟩
      replace hg := bnd_use hx54 hg
      refine TT_go 0 (pc' := 193) (lv' := [(0, .ref 55), (1, .int v1)]) (st' := [.int x54, .int v1, .ref 64]) (h2 := (83, J52, R0 p)) (by subst hx54; rfl) ?_
      by_cases hb55 : inB v1 16 = true
      rotate_left
      · rw [if_neg hb55] at hg; cases hg
      rw [if_pos hb55] at hg
      refine TT_iast (n := 16) rfl (by rfl) hb55 ?_
      obtain ⟨J56, hJ56⟩ : ∃ x : IH, x = (up2 J52 64 (Int32.toNatClampNeg v1) x54) := ⟨_, rfl⟩
      replace hg := bnd_use hJ56 hg
      refine TT_go 0 (pc' := 194) (lv' := [(0, .ref 55), (1, .int v1)]) (st' := []) (h2 := (83, J56, R0 p)) (by subst hJ56; rfl) ?_
      refine TT_go 8 (pc' := 207) (lv' := [(0, .ref 55), (1, .int v1)]) (st' := [.int (8 + v1), .ref 69, .int v1, .ref 69]) (h2 := (83, J56, R0 p)) (by rfl) ?_
      by_cases hb57 : inB (8 + v1) 16 = true
      rotate_left
      · rw [if_neg hb57] at hg; cases hg
      rw [if_pos hb57] at hg
      refine TT_iald (n := 16) rfl (by rfl) hb57 ?_
      obtain ⟨x58, hx58⟩ : ∃ x : Int32, x = (J56 69 (Int32.toNatClampNeg (8 + v1))) := ⟨_, rfl⟩
      replace hg := bnd_use hx58 hg
      refine TT_go 0 (pc' := 208) (lv' := [(0, .ref 55), (1, .int v1)]) (st' := [.int x58, .int v1, .ref 69]) (h2 := (83, J56, R0 p)) (by subst hx58; rfl) ?_
      by_cases hb59 : inB v1 16 = true
      rotate_left
      · rw [if_neg hb59] at hg; cases hg
      rw [if_pos hb59] at hg
      refine TT_iast (n := 16) rfl (by rfl) hb59 ?_
      obtain ⟨J60, hJ60⟩ : ∃ x : IH, x = (up2 J56 69 (Int32.toNatClampNeg v1) x58) := ⟨_, rfl⟩
      replace hg := bnd_use hJ60 hg
      refine TT_go 0 (pc' := 209) (lv' := [(0, .ref 55), (1, .int v1)]) (st' := []) (h2 := (83, J60, R0 p)) (by subst hJ60; rfl) ?_
      refine TT_go 8 (pc' := 222) (lv' := [(0, .ref 55), (1, .int v1)]) (st' := [.int (8 + v1), .ref 70, .int v1, .ref 70]) (h2 := (83, J60, R0 p)) (by rfl) ?_
      by_cases hb61 : inB (8 + v1) 16 = true
      rotate_left
      · rw [if_neg hb61] at hg; cases hg
      rw [if_pos hb61] at hg
      refine TT_iald (n := 16) rfl (by rfl) hb61 ?_
      obtain ⟨x62, hx62⟩ : ∃ x : Int32, x = (J60 70 (Int32.toNatClampNeg (8 + v1))) := ⟨_, rfl⟩
      replace hg := bnd_use hx62 hg
      refine TT_go 0 (pc' := 223) (lv' := [(0, .ref 55), (1, .int v1)]) (st' := [.int x62, .int v1, .ref 70]) (h2 := (83, J60, R0 p)) (by subst hx62; rfl) ?_
      by_cases hb63 : inB v1 16 = true
      rotate_left
      · rw [if_neg hb63] at hg; cases hg
      rw [if_pos hb63] at hg
      refine TT_iast (n := 16) rfl (by rfl) hb63 ?_
      obtain ⟨J64, hJ64⟩ : ∃ x : IH, x = (up2 J60 70 (Int32.toNatClampNeg v1) x62) := ⟨_, rfl⟩
      replace hg := bnd_use hJ64 hg
      refine TT_go 0 (pc' := 224) (lv' := [(0, .ref 55), (1, .int v1)]) (st' := []) (h2 := (83, J64, R0 p)) (by subst hJ64; rfl) ?_
      refine TT_go 8 (pc' := 237) (lv' := [(0, .ref 55), (1, .int v1)]) (st' := [.int (8 + v1), .ref 71, .int v1, .ref 71]) (h2 := (83, J64, R0 p)) (by rfl) ?_
      by_cases hb65 : inB (8 + v1) 16 = true
      rotate_left
      · rw [if_neg hb65] at hg; cases hg
      rw [if_pos hb65] at hg
      refine TT_iald (n := 16) rfl (by rfl) hb65 ?_
      obtain ⟨x66, hx66⟩ : ∃ x : Int32, x = (J64 71 (Int32.toNatClampNeg (8 + v1))) := ⟨_, rfl⟩
      replace hg := bnd_use hx66 hg
      refine TT_go 0 (pc' := 238) (lv' := [(0, .ref 55), (1, .int v1)]) (st' := [.int x66, .int v1, .ref 71]) (h2 := (83, J64, R0 p)) (by subst hx66; rfl) ?_
      by_cases hb67 : inB v1 16 = true
      rotate_left
      · rw [if_neg hb67] at hg; cases hg
      rw [if_pos hb67] at hg
      refine TT_iast (n := 16) rfl (by rfl) hb67 ?_
      obtain ⟨J68, hJ68⟩ : ∃ x : IH, x = (up2 J64 71 (Int32.toNatClampNeg v1) x66) := ⟨_, rfl⟩
      replace hg := bnd_use hJ68 hg
      refine TT_go 0 (pc' := 239) (lv' := [(0, .ref 55), (1, .int v1)]) (st' := []) (h2 := (83, J68, R0 p)) (by subst hJ68; rfl) ?_
      obtain ⟨x69, hx69⟩ : ∃ x : Int32, x = (v1 + 1) := ⟨_, rfl⟩
      replace hg := bnd_use hx69 hg
      refine TT_go 1 (pc' := 242) (lv' := [(1, .int x69), (0, .ref 55)]) (st' := []) (h2 := (83, J68, R0 p)) (by subst hx69; rfl) ?_
      refine TT_go 1 (pc' := 83) (lv' := [(1, .int x69), (0, .ref 55)]) (st' := []) (h2 := (83, J68, R0 p)) (by rfl) ?_
      refine TT_sub (lv2 := [(0, .ref 55), (1, .int x69)]) rfl rfl ⟨rfl, rfl, trivial⟩ ?_
      exact ih x69 _ _ hg
def g_X9_lay (n : Nat) (I : IH) : Option (Int32 × IH) :=
  match g_X9_readAll n I with
  | none => none
  | some (r4, J3) =>
    if r4 = (-4) then
      bnd (J3 57 1) fun x6 =>
      if x6 = 0 then
        some ((-2), J3)
      else
        bnd (J3 57 1) fun x8 =>
        bnd (up2 J3 57 0 x8) fun J9 =>
        bnd (J9 65 1) fun x10 =>
        bnd (up2 J9 65 0 x10) fun J11 =>
        bnd (J11 68 1) fun x12 =>
        bnd (up2 J11 68 0 x12) fun J13 =>
        bnd (J13 72 1) fun x14 =>
        bnd (up2 J13 72 0 x14) fun J15 =>
        bnd (J15 73 1) fun x16 =>
        bnd (up2 J15 73 0 x16) fun J17 =>
        g_X9_lay_83 n 0 J17
    else
      some ((-2), J3)
set_option maxRecDepth 20000 in
theorem t_X9_lay {p : Nat} {n : Nat} {I : IH} {w : Int32 × IH} (hg : g_X9_lay n I = some w) : TT none mt_X9_lay 0 (lv_args 0 [.ref 55]) [] (83, I, R0 p) (some (.int w.1)) (83, w.2, R0 p) := by
  unfold g_X9_lay at hg
  refine TT_go 1 (pc' := 1) (lv' := [(0, .ref 55)]) (st' := [.ref 55]) (h2 := (83, I, R0 p)) (by rfl) ?_
  cases hq1 : g_X9_readAll n I with
  | none => rw [hq1] at hg; cases hg
  | some w2 =>
    obtain ⟨r4, J3⟩ := w2
    rw [hq1] at hg
    dsimp only at hg
    refine TT_call (me' := mt_X9_readAll) (as := [.ref 55]) (rest := []) (r1 := some (.int r4)) (h1 := (83, J3, R0 p)) rfl rfl (by rfl) (t_X9_readAll hq1) ?_
    refine TT_go 1 (pc' := 6) (lv' := [(0, .ref 55)]) (st' := [.int (-4), .int r4]) (h2 := (83, J3, R0 p)) (by rfl) ?_
    by_cases hc5 : r4 = (-4)
    · rw [if_pos hc5] at hg
      refine TT_ine_f (t := 18) rfl rfl hc5 ?_
      obtain ⟨x6, hx6⟩ : ∃ x : Int32, x = (J3 57 1) := ⟨_, rfl⟩
      replace hg := bnd_use hx6 hg
      refine TT_go 4 (pc' := 15) (lv' := [(0, .ref 55)]) (st' := [.int x6]) (h2 := (83, J3, R0 p)) (by subst hx6; rfl) ?_
      by_cases hc7 : x6 = 0
      · rw [if_pos hc7] at hg
        refine TT_zne_f (t := 21) rfl rfl hc7 ?_
        refine TT_go 1 (pc' := 20) (lv' := [(0, .ref 55)]) (st' := [.int (-2)]) (h2 := (83, J3, R0 p)) (by rfl) ?_
        have hg := Option.some.inj hg
        subst hg
        exact TT_ret rfl rfl
      · rw [if_neg hc7] at hg
        refine TT_zne_t (t := 21) rfl rfl hc7 ?_
        obtain ⟨x8, hx8⟩ : ∃ x : Int32, x = (J3 57 1) := ⟨_, rfl⟩
        replace hg := bnd_use hx8 hg
        refine TT_go 7 (pc' := 32) (lv' := [(0, .ref 55)]) (st' := [.int x8, .int 0, .ref 57]) (h2 := (83, J3, R0 p)) (by subst hx8; rfl) ?_
        obtain ⟨J9, hJ9⟩ : ∃ x : IH, x = (up2 J3 57 0 x8) := ⟨_, rfl⟩
        replace hg := bnd_use hJ9 hg
        refine TT_go 1 (pc' := 33) (lv' := [(0, .ref 55)]) (st' := []) (h2 := (83, J9, R0 p)) (by subst hJ9; rfl) ?_
        obtain ⟨x10, hx10⟩ : ∃ x : Int32, x = (J9 65 1) := ⟨_, rfl⟩
        replace hg := bnd_use hx10 hg
        refine TT_go 7 (pc' := 44) (lv' := [(0, .ref 55)]) (st' := [.int x10, .int 0, .ref 65]) (h2 := (83, J9, R0 p)) (by subst hx10; rfl) ?_
        obtain ⟨J11, hJ11⟩ : ∃ x : IH, x = (up2 J9 65 0 x10) := ⟨_, rfl⟩
        replace hg := bnd_use hJ11 hg
        refine TT_go 1 (pc' := 45) (lv' := [(0, .ref 55)]) (st' := []) (h2 := (83, J11, R0 p)) (by subst hJ11; rfl) ?_
        obtain ⟨x12, hx12⟩ : ∃ x : Int32, x = (J11 68 1) := ⟨_, rfl⟩
        replace hg := bnd_use hx12 hg
        refine TT_go 7 (pc' := 56) (lv' := [(0, .ref 55)]) (st' := [.int x12, .int 0, .ref 68]) (h2 := (83, J11, R0 p)) (by subst hx12; rfl) ?_
        obtain ⟨J13, hJ13⟩ : ∃ x : IH, x = (up2 J11 68 0 x12) := ⟨_, rfl⟩
        replace hg := bnd_use hJ13 hg
        refine TT_go 1 (pc' := 57) (lv' := [(0, .ref 55)]) (st' := []) (h2 := (83, J13, R0 p)) (by subst hJ13; rfl) ?_
        obtain ⟨x14, hx14⟩ : ∃ x : Int32, x = (J13 72 1) := ⟨_, rfl⟩
        replace hg := bnd_use hx14 hg
        refine TT_go 7 (pc' := 68) (lv' := [(0, .ref 55)]) (st' := [.int x14, .int 0, .ref 72]) (h2 := (83, J13, R0 p)) (by subst hx14; rfl) ?_
        obtain ⟨J15, hJ15⟩ : ∃ x : IH, x = (up2 J13 72 0 x14) := ⟨_, rfl⟩
        replace hg := bnd_use hJ15 hg
        refine TT_go 1 (pc' := 69) (lv' := [(0, .ref 55)]) (st' := []) (h2 := (83, J15, R0 p)) (by subst hJ15; rfl) ?_
        obtain ⟨x16, hx16⟩ : ∃ x : Int32, x = (J15 73 1) := ⟨_, rfl⟩
        replace hg := bnd_use hx16 hg
        refine TT_go 7 (pc' := 80) (lv' := [(0, .ref 55)]) (st' := [.int x16, .int 0, .ref 73]) (h2 := (83, J15, R0 p)) (by subst hx16; rfl) ?_
        obtain ⟨J17, hJ17⟩ : ∃ x : IH, x = (up2 J15 73 0 x16) := ⟨_, rfl⟩
        replace hg := bnd_use hJ17 hg
        refine TT_go 1 (pc' := 81) (lv' := [(0, .ref 55)]) (st' := []) (h2 := (83, J17, R0 p)) (by subst hJ17; rfl) ?_
        refine TT_go 2 (pc' := 83) (lv' := [(1, .int 0), (0, .ref 55)]) (st' := []) (h2 := (83, J17, R0 p)) (by rfl) ?_
        refine TT_sub (lv2 := [(0, .ref 55), (1, .int 0)]) rfl rfl ⟨rfl, rfl, trivial⟩ ?_
        exact t_X9_lay_83 n 0 _ _ hg
    · rw [if_neg hc5] at hg
      refine TT_ine_t (t := 18) rfl rfl hc5 ?_
      refine TT_go 1 (pc' := 20) (lv' := [(0, .ref 55)]) (st' := [.int (-2)]) (h2 := (83, J3, R0 p)) (by rfl) ?_
      have hg := Option.some.inj hg
      subst hg
      exact TT_ret rfl rfl
def g_X9_isGlass (n : Nat) (a0 : Int32) (I : IH) : Option (Int32 × IH) :=
  bnd (I 57 0) fun x1 =>
  match g_X9_in n (Int32.toInt64 a0) 0 (Int32.toInt64 (x1 - 1)) I with
  | none => none
  | some (r5, J4) =>
    if r5 = 0 ∨ r5 = 1 then some (r5, J4) else none
set_option maxRecDepth 20000 in
theorem t_X9_isGlass {p : Nat} {n : Nat} {a0 : Int32} {I : IH} {w : Int32 × IH} (hg : g_X9_isGlass n a0 I = some w) : TT none mt_X9_isGlass 0 (lv_args 0 [.ref 55, .int a0]) [] (83, I, R0 p) (some (.int w.1)) (83, w.2, R0 p) := by
  unfold g_X9_isGlass at hg
  obtain ⟨x1, hx1⟩ : ∃ x : Int32, x = (I 57 0) := ⟨_, rfl⟩
  replace hg := bnd_use hx1 hg
  refine TT_go 7 (pc' := 9) (lv' := [(0, .ref 55), (1, .int a0)]) (st' := [.int x1, .long 0, .long (Int32.toInt64 a0)]) (h2 := (83, I, R0 p)) (by subst hx1; rfl) ?_
  refine TT_go 3 (pc' := 12) (lv' := [(0, .ref 55), (1, .int a0)]) (st' := [.long (Int32.toInt64 (x1 - 1)), .long 0, .long (Int32.toInt64 a0)]) (h2 := (83, I, R0 p)) (by rfl) ?_
  cases hq2 : g_X9_in n (Int32.toInt64 a0) 0 (Int32.toInt64 (x1 - 1)) I with
  | none => rw [hq2] at hg; cases hg
  | some w3 =>
    obtain ⟨r5, J4⟩ := w3
    rw [hq2] at hg
    dsimp only at hg
    refine TT_call (me' := mt_X9_in) (as := [.long (Int32.toInt64 a0), .long 0, .long (Int32.toInt64 (x1 - 1))]) (rest := []) (r1 := some (.int r5)) (h1 := (83, J4, R0 p)) rfl rfl (by rfl) (t_X9_in hq2) ?_
    refine TT_go 0 (pc' := 15) (lv' := [(0, .ref 55), (1, .int a0)]) (st' := [.int r5]) (h2 := (83, J4, R0 p)) (by rfl) ?_
    by_cases hc6 : r5 = 0 ∨ r5 = 1
    rotate_left
    · rw [if_neg hc6] at hg; cases hg
    rw [if_pos hc6] at hg
    have hg := Option.some.inj hg
    subst hg
    exact TT_ret rfl (if_pos hc6)
def g_X9_isHand (n : Nat) (a0 : Int32) (I : IH) : Option (Int32 × IH) :=
  match g_X9_in n (Int32.toInt64 a0) 0 5 I with
  | none => none
  | some (r4, J3) =>
    if r4 = 0 ∨ r4 = 1 then some (r4, J3) else none
set_option maxRecDepth 20000 in
theorem t_X9_isHand {p : Nat} {n : Nat} {a0 : Int32} {I : IH} {w : Int32 × IH} (hg : g_X9_isHand n a0 I = some w) : TT none mt_X9_isHand 0 (lv_args 0 [.int a0]) [] (83, I, R0 p) (some (.int w.1)) (83, w.2, R0 p) := by
  unfold g_X9_isHand at hg
  refine TT_go 4 (pc' := 6) (lv' := [(0, .int a0)]) (st' := [.long 5, .long 0, .long (Int32.toInt64 a0)]) (h2 := (83, I, R0 p)) (by rfl) ?_
  cases hq1 : g_X9_in n (Int32.toInt64 a0) 0 5 I with
  | none => rw [hq1] at hg; cases hg
  | some w2 =>
    obtain ⟨r4, J3⟩ := w2
    rw [hq1] at hg
    dsimp only at hg
    refine TT_call (me' := mt_X9_in) (as := [.long (Int32.toInt64 a0), .long 0, .long 5]) (rest := []) (r1 := some (.int r4)) (h1 := (83, J3, R0 p)) rfl rfl (by rfl) (t_X9_in hq1) ?_
    refine TT_go 0 (pc' := 9) (lv' := [(0, .int a0)]) (st' := [.int r4]) (h2 := (83, J3, R0 p)) (by rfl) ?_
    by_cases hc5 : r4 = 0 ∨ r4 = 1
    rotate_left
    · rw [if_neg hc5] at hg; cases hg
    rw [if_pos hc5] at hg
    have hg := Option.some.inj hg
    subst hg
    exact TT_ret rfl (if_pos hc5)
def g_X9_glass (n : Nat) (a0 : Int32) (a1 : Int32) (I : IH) : Option (Int32 × IH) :=
  match g_X9_isGlass n a0 I with
  | none => none
  | some (r4, J3) =>
    if r4 = 0 then
      some ((-1), J3)
    else
      match g_X9_in n (Int32.toInt64 a1) 0 5 J3 with
      | none => none
      | some (r9, J8) =>
        if r9 = 0 then
          some ((-1), J8)
        else
          if a1 = 0 then
            if inB (2 * a0) 64 = true then
              bnd (J8 74 (Int32.toNatClampNeg (2 * a0))) fun x13 =>
              some (x13, J8)
            else none
          else if a1 = 1 then
            if inB ((2 * a0) + 1) 64 = true then
              bnd (J8 74 (Int32.toNatClampNeg ((2 * a0) + 1))) fun x16 =>
              some (x16, J8)
            else none
          else if a1 = 2 then
            if inB a0 32 = true then
              bnd (J8 75 (Int32.toNatClampNeg a0)) fun x19 =>
              some (x19, J8)
            else none
          else if a1 = 3 then
            if inB a0 16 = true then
              bnd (J8 58 (Int32.toNatClampNeg a0)) fun x22 =>
              some (x22, J8)
            else none
          else if a1 = 4 then
            if inB a0 16 = true then
              bnd (J8 61 (Int32.toNatClampNeg a0)) fun x25 =>
              some (x25, J8)
            else none
          else
            if inB a0 16 = true then
              bnd (J8 64 (Int32.toNatClampNeg a0)) fun x27 =>
              some (x27, J8)
            else none
set_option maxRecDepth 20000 in
theorem t_X9_glass {p : Nat} {n : Nat} {a0 : Int32} {a1 : Int32} {I : IH} {w : Int32 × IH} (hg : g_X9_glass n a0 a1 I = some w) : TT none mt_X9_glass 0 (lv_args 0 [.ref 55, .int a0, .int a1]) [] (83, I, R0 p) (some (.int w.1)) (83, w.2, R0 p) := by
  unfold g_X9_glass at hg
  refine TT_go 2 (pc' := 2) (lv' := [(0, .ref 55), (1, .int a0), (2, .int a1)]) (st' := [.int a0, .ref 55]) (h2 := (83, I, R0 p)) (by rfl) ?_
  cases hq1 : g_X9_isGlass n a0 I with
  | none => rw [hq1] at hg; cases hg
  | some w2 =>
    obtain ⟨r4, J3⟩ := w2
    rw [hq1] at hg
    dsimp only at hg
    refine TT_call (me' := mt_X9_isGlass) (as := [.ref 55, .int a0]) (rest := []) (r1 := some (.int r4)) (h1 := (83, J3, R0 p)) rfl rfl (by rfl) (t_X9_isGlass hq1) ?_
    refine TT_go 0 (pc' := 5) (lv' := [(0, .ref 55), (1, .int a0), (2, .int a1)]) (st' := [.int r4]) (h2 := (83, J3, R0 p)) (by rfl) ?_
    by_cases hc5 : r4 = 0
    · rw [if_pos hc5] at hg
      refine TT_zeq_t (t := 20) rfl rfl hc5 ?_
      refine TT_go 1 (pc' := 21) (lv' := [(0, .ref 55), (1, .int a0), (2, .int a1)]) (st' := [.int (-1)]) (h2 := (83, J3, R0 p)) (by rfl) ?_
      have hg := Option.some.inj hg
      subst hg
      exact TT_ret rfl rfl
    · rw [if_neg hc5] at hg
      refine TT_zeq_f (t := 20) rfl rfl hc5 ?_
      refine TT_go 4 (pc' := 14) (lv' := [(0, .ref 55), (1, .int a0), (2, .int a1)]) (st' := [.long 5, .long 0, .long (Int32.toInt64 a1)]) (h2 := (83, J3, R0 p)) (by rfl) ?_
      cases hq6 : g_X9_in n (Int32.toInt64 a1) 0 5 J3 with
      | none => rw [hq6] at hg; cases hg
      | some w7 =>
        obtain ⟨r9, J8⟩ := w7
        rw [hq6] at hg
        dsimp only at hg
        refine TT_call (me' := mt_X9_in) (as := [.long (Int32.toInt64 a1), .long 0, .long 5]) (rest := []) (r1 := some (.int r9)) (h1 := (83, J8, R0 p)) rfl rfl (by rfl) (t_X9_in hq6) ?_
        refine TT_go 0 (pc' := 17) (lv' := [(0, .ref 55), (1, .int a0), (2, .int a1)]) (st' := [.int r9]) (h2 := (83, J8, R0 p)) (by rfl) ?_
        by_cases hc10 : r9 = 0
        · rw [if_pos hc10] at hg
          refine TT_zne_f (t := 22) rfl rfl hc10 ?_
          refine TT_go 1 (pc' := 21) (lv' := [(0, .ref 55), (1, .int a0), (2, .int a1)]) (st' := [.int (-1)]) (h2 := (83, J8, R0 p)) (by rfl) ?_
          have hg := Option.some.inj hg
          subst hg
          exact TT_ret rfl rfl
        · rw [if_neg hc10] at hg
          refine TT_zne_t (t := 22) rfl rfl hc10 ?_
          refine TT_go 1 (pc' := 23) (lv' := [(0, .ref 55), (1, .int a0), (2, .int a1)]) (st' := [.int a1]) (h2 := (83, J8, R0 p)) (by rfl) ?_
          by_cases hc11 : a1 = 0
          · rw [if_pos hc11] at hg
            refine TT_tin (t := 56) (off := 33) rfl (by rw [hc11]; decide) (by rw [hc11]; rfl) rfl ?_
            refine TT_go 5 (pc' := 63) (lv' := [(0, .ref 55), (1, .int a0), (2, .int a1)]) (st' := [.int (2 * a0), .ref 74]) (h2 := (83, J8, R0 p)) (by rfl) ?_
            by_cases hb12 : inB (2 * a0) 64 = true
            rotate_left
            · rw [if_neg hb12] at hg; cases hg
            rw [if_pos hb12] at hg
            refine TT_iald (n := 64) rfl (by rfl) hb12 ?_
            obtain ⟨x13, hx13⟩ : ∃ x : Int32, x = (J8 74 (Int32.toNatClampNeg (2 * a0))) := ⟨_, rfl⟩
            replace hg := bnd_use hx13 hg
            refine TT_go 0 (pc' := 64) (lv' := [(0, .ref 55), (1, .int a0), (2, .int a1)]) (st' := [.int x13]) (h2 := (83, J8, R0 p)) (by subst hx13; rfl) ?_
            have hg := Option.some.inj hg
            subst hg
            exact TT_ret rfl rfl
          rw [if_neg hc11] at hg
          by_cases hc14 : a1 = 1
          · rw [if_pos hc14] at hg
            refine TT_tin (t := 65) (off := 42) rfl (by rw [hc14]; decide) (by rw [hc14]; rfl) rfl ?_
            refine TT_go 7 (pc' := 74) (lv' := [(0, .ref 55), (1, .int a0), (2, .int a1)]) (st' := [.int ((2 * a0) + 1), .ref 74]) (h2 := (83, J8, R0 p)) (by rfl) ?_
            by_cases hb15 : inB ((2 * a0) + 1) 64 = true
            rotate_left
            · rw [if_neg hb15] at hg; cases hg
            rw [if_pos hb15] at hg
            refine TT_iald (n := 64) rfl (by rfl) hb15 ?_
            obtain ⟨x16, hx16⟩ : ∃ x : Int32, x = (J8 74 (Int32.toNatClampNeg ((2 * a0) + 1))) := ⟨_, rfl⟩
            replace hg := bnd_use hx16 hg
            refine TT_go 0 (pc' := 75) (lv' := [(0, .ref 55), (1, .int a0), (2, .int a1)]) (st' := [.int x16]) (h2 := (83, J8, R0 p)) (by subst hx16; rfl) ?_
            have hg := Option.some.inj hg
            subst hg
            exact TT_ret rfl rfl
          rw [if_neg hc14] at hg
          by_cases hc17 : a1 = 2
          · rw [if_pos hc17] at hg
            refine TT_tin (t := 76) (off := 53) rfl (by rw [hc17]; decide) (by rw [hc17]; rfl) rfl ?_
            refine TT_go 3 (pc' := 81) (lv' := [(0, .ref 55), (1, .int a0), (2, .int a1)]) (st' := [.int a0, .ref 75]) (h2 := (83, J8, R0 p)) (by rfl) ?_
            by_cases hb18 : inB a0 32 = true
            rotate_left
            · rw [if_neg hb18] at hg; cases hg
            rw [if_pos hb18] at hg
            refine TT_iald (n := 32) rfl (by rfl) hb18 ?_
            obtain ⟨x19, hx19⟩ : ∃ x : Int32, x = (J8 75 (Int32.toNatClampNeg a0)) := ⟨_, rfl⟩
            replace hg := bnd_use hx19 hg
            refine TT_go 0 (pc' := 82) (lv' := [(0, .ref 55), (1, .int a0), (2, .int a1)]) (st' := [.int x19]) (h2 := (83, J8, R0 p)) (by subst hx19; rfl) ?_
            have hg := Option.some.inj hg
            subst hg
            exact TT_ret rfl rfl
          rw [if_neg hc17] at hg
          by_cases hc20 : a1 = 3
          · rw [if_pos hc20] at hg
            refine TT_tin (t := 83) (off := 60) rfl (by rw [hc20]; decide) (by rw [hc20]; rfl) rfl ?_
            refine TT_go 3 (pc' := 88) (lv' := [(0, .ref 55), (1, .int a0), (2, .int a1)]) (st' := [.int a0, .ref 58]) (h2 := (83, J8, R0 p)) (by rfl) ?_
            by_cases hb21 : inB a0 16 = true
            rotate_left
            · rw [if_neg hb21] at hg; cases hg
            rw [if_pos hb21] at hg
            refine TT_iald (n := 16) rfl (by rfl) hb21 ?_
            obtain ⟨x22, hx22⟩ : ∃ x : Int32, x = (J8 58 (Int32.toNatClampNeg a0)) := ⟨_, rfl⟩
            replace hg := bnd_use hx22 hg
            refine TT_go 0 (pc' := 89) (lv' := [(0, .ref 55), (1, .int a0), (2, .int a1)]) (st' := [.int x22]) (h2 := (83, J8, R0 p)) (by subst hx22; rfl) ?_
            have hg := Option.some.inj hg
            subst hg
            exact TT_ret rfl rfl
          rw [if_neg hc20] at hg
          by_cases hc23 : a1 = 4
          · rw [if_pos hc23] at hg
            refine TT_tin (t := 90) (off := 67) rfl (by rw [hc23]; decide) (by rw [hc23]; rfl) rfl ?_
            refine TT_go 3 (pc' := 95) (lv' := [(0, .ref 55), (1, .int a0), (2, .int a1)]) (st' := [.int a0, .ref 61]) (h2 := (83, J8, R0 p)) (by rfl) ?_
            by_cases hb24 : inB a0 16 = true
            rotate_left
            · rw [if_neg hb24] at hg; cases hg
            rw [if_pos hb24] at hg
            refine TT_iald (n := 16) rfl (by rfl) hb24 ?_
            obtain ⟨x25, hx25⟩ : ∃ x : Int32, x = (J8 61 (Int32.toNatClampNeg a0)) := ⟨_, rfl⟩
            replace hg := bnd_use hx25 hg
            refine TT_go 0 (pc' := 96) (lv' := [(0, .ref 55), (1, .int a0), (2, .int a1)]) (st' := [.int x25]) (h2 := (83, J8, R0 p)) (by subst hx25; rfl) ?_
            have hg := Option.some.inj hg
            subst hg
            exact TT_ret rfl rfl
          rw [if_neg hc23] at hg
          refine TT_tout (t := 97) rfl (by have e0 := lv_neT (a := 0) hc11 (by decide); have e1 := lv_neT (a := 1) hc14 (by decide); have e2 := lv_neT (a := 2) hc17 (by decide); have e3 := lv_neT (a := 3) hc20 (by decide); have e4 := lv_neT (a := 4) hc23 (by decide); omega) rfl ?_
          refine TT_go 3 (pc' := 102) (lv' := [(0, .ref 55), (1, .int a0), (2, .int a1)]) (st' := [.int a0, .ref 64]) (h2 := (83, J8, R0 p)) (by rfl) ?_
          by_cases hb26 : inB a0 16 = true
          rotate_left
          · rw [if_neg hb26] at hg; cases hg
          rw [if_pos hb26] at hg
          refine TT_iald (n := 16) rfl (by rfl) hb26 ?_
          obtain ⟨x27, hx27⟩ : ∃ x : Int32, x = (J8 64 (Int32.toNatClampNeg a0)) := ⟨_, rfl⟩
          replace hg := bnd_use hx27 hg
          refine TT_go 0 (pc' := 103) (lv' := [(0, .ref 55), (1, .int a0), (2, .int a1)]) (st' := [.int x27]) (h2 := (83, J8, R0 p)) (by subst hx27; rfl) ?_
          have hg := Option.some.inj hg
          subst hg
          exact TT_ret rfl rfl
def g_X9_copy_38 : Nat → Int32 → Int32 → Int32 → IH → Option (IH)
  | 0, _, _, _, _ => none
  | n + 1, v1, v2, v3, I =>
    if 8 ≤ v3 then
      if inB v1 4 = true then
        bnd (I 76 (Int32.toNatClampNeg v1)) fun x4 =>
        if inB v2 4 = true then
          bnd (up2 I 76 (Int32.toNatClampNeg v2) x4) fun J6 =>
          some J6
        else none
      else none
    else
      if inB ((8 * v1) + v3) 32 = true then
        bnd (I 75 (Int32.toNatClampNeg ((8 * v1) + v3))) fun x8 =>
        if inB ((8 * v2) + v3) 32 = true then
          bnd (up2 I 75 (Int32.toNatClampNeg ((8 * v2) + v3)) x8) fun J10 =>
          bnd (v3 + 1) fun x11 =>
          g_X9_copy_38 n v1 v2 x11 J10
        else none
      else none
set_option maxRecDepth 20000 in
theorem t_X9_copy_38 {p : Nat} : ∀ (n : Nat) (v1 : Int32) (v2 : Int32) (v3 : Int32) (I : IH) (w : IH), g_X9_copy_38 n v1 v2 v3 I = some w → TT none mt_X9_copy 38 [(0, .ref 55), (1, .int v1), (2, .int v2), (3, .int v3)] [] (83, I, R0 p) none (83, w, R0 p) := by
  intro n
  induction n with
  | zero => intro v1 v2 v3 I w hg; cases hg
  | succ n ih =>
    intro v1 v2 v3 I w hg
    unfold g_X9_copy_38 at hg
    refine TT_go 2 (pc' := 41) (lv' := [(0, .ref 55), (1, .int v1), (2, .int v2), (3, .int v3)]) (st' := [.int 8, .int v3]) (h2 := (83, I, R0 p)) (by rfl) ?_
    by_cases hc2 : 8 ≤ v3
    · rw [if_pos hc2] at hg
      refine TT_ige_t (t := 72) rfl rfl hc2 ?_
      refine TT_go 6 (pc' := 82) (lv' := [(0, .ref 55), (1, .int v1), (2, .int v2), (3, .int v3)]) (st' := [.int v1, .ref 76, .int v2, .ref 76]) (h2 := (83, I, R0 p)) (by rfl) ?_
      by_cases hb3 : inB v1 4 = true
      rotate_left
      · rw [if_neg hb3] at hg; cases hg
      rw [if_pos hb3] at hg
      refine TT_iald (n := 4) rfl (by rfl) hb3 ?_
      obtain ⟨x4, hx4⟩ : ∃ x : Int32, x = (I 76 (Int32.toNatClampNeg v1)) := ⟨_, rfl⟩
      replace hg := bnd_use hx4 hg
      refine TT_go 0 (pc' := 83) (lv' := [(0, .ref 55), (1, .int v1), (2, .int v2), (3, .int v3)]) (st' := [.int x4, .int v2, .ref 76]) (h2 := (83, I, R0 p)) (by subst hx4; rfl) ?_
      by_cases hb5 : inB v2 4 = true
      rotate_left
      · rw [if_neg hb5] at hg; cases hg
      rw [if_pos hb5] at hg
      refine TT_iast (n := 4) rfl (by rfl) hb5 ?_
      obtain ⟨J6, hJ6⟩ : ∃ x : IH, x = (up2 I 76 (Int32.toNatClampNeg v2) x4) := ⟨_, rfl⟩
      replace hg := bnd_use hJ6 hg
      refine TT_go 0 (pc' := 84) (lv' := [(0, .ref 55), (1, .int v1), (2, .int v2), (3, .int v3)]) (st' := []) (h2 := (83, J6, R0 p)) (by subst hJ6; rfl) ?_
      have hg := Option.some.inj hg
      subst hg
      exact TT_ret rfl rfl
    · rw [if_neg hc2] at hg
      refine TT_ige_f (t := 72) rfl rfl hc2 ?_
      refine TT_go 14 (pc' := 64) (lv' := [(0, .ref 55), (1, .int v1), (2, .int v2), (3, .int v3)]) (st' := [.int ((8 * v1) + v3), .ref 75, .int ((8 * v2) + v3), .ref 75]) (h2 := (83, I, R0 p)) (by rfl) ?_
      by_cases hb7 : inB ((8 * v1) + v3) 32 = true
      rotate_left
      · rw [if_neg hb7] at hg; cases hg
      rw [if_pos hb7] at hg
      refine TT_iald (n := 32) rfl (by rfl) hb7 ?_
      obtain ⟨x8, hx8⟩ : ∃ x : Int32, x = (I 75 (Int32.toNatClampNeg ((8 * v1) + v3))) := ⟨_, rfl⟩
      replace hg := bnd_use hx8 hg
      refine TT_go 0 (pc' := 65) (lv' := [(0, .ref 55), (1, .int v1), (2, .int v2), (3, .int v3)]) (st' := [.int x8, .int ((8 * v2) + v3), .ref 75]) (h2 := (83, I, R0 p)) (by subst hx8; rfl) ?_
      by_cases hb9 : inB ((8 * v2) + v3) 32 = true
      rotate_left
      · rw [if_neg hb9] at hg; cases hg
      rw [if_pos hb9] at hg
      refine TT_iast (n := 32) rfl (by rfl) hb9 ?_
      obtain ⟨J10, hJ10⟩ : ∃ x : IH, x = (up2 I 75 (Int32.toNatClampNeg ((8 * v2) + v3)) x8) := ⟨_, rfl⟩
      replace hg := bnd_use hJ10 hg
      refine TT_go 0 (pc' := 66) (lv' := [(0, .ref 55), (1, .int v1), (2, .int v2), (3, .int v3)]) (st' := []) (h2 := (83, J10, R0 p)) (by subst hJ10; rfl) ?_
      obtain ⟨x11, hx11⟩ : ∃ x : Int32, x = (v3 + 1) := ⟨_, rfl⟩
      replace hg := bnd_use hx11 hg
      refine TT_go 1 (pc' := 69) (lv' := [(3, .int x11), (0, .ref 55), (1, .int v1), (2, .int v2)]) (st' := []) (h2 := (83, J10, R0 p)) (by subst hx11; rfl) ?_
      refine TT_go 1 (pc' := 38) (lv' := [(3, .int x11), (0, .ref 55), (1, .int v1), (2, .int v2)]) (st' := []) (h2 := (83, J10, R0 p)) (by rfl) ?_
      refine TT_sub (lv2 := [(0, .ref 55), (1, .int v1), (2, .int v2), (3, .int x11)]) rfl rfl ⟨rfl, rfl, rfl, rfl, trivial⟩ ?_
      exact ih v1 v2 x11 _ _ hg
def g_X9_copy_2 : Nat → Int32 → Int32 → Int32 → IH → Option (IH)
  | 0, _, _, _, _ => none
  | n + 1, v1, v2, v3, I =>
    if 16 ≤ v3 then
      g_X9_copy_38 n v1 v2 0 I
    else
      if inB ((16 * v1) + v3) 64 = true then
        bnd (I 74 (Int32.toNatClampNeg ((16 * v1) + v3))) fun x13 =>
        if inB ((16 * v2) + v3) 64 = true then
          bnd (up2 I 74 (Int32.toNatClampNeg ((16 * v2) + v3)) x13) fun J15 =>
          bnd (v3 + 1) fun x16 =>
          g_X9_copy_2 n v1 v2 x16 J15
        else none
      else none
set_option maxRecDepth 20000 in
theorem t_X9_copy_2 {p : Nat} : ∀ (n : Nat) (v1 : Int32) (v2 : Int32) (v3 : Int32) (I : IH) (w : IH), g_X9_copy_2 n v1 v2 v3 I = some w → TT none mt_X9_copy 2 [(0, .ref 55), (1, .int v1), (2, .int v2), (3, .int v3)] [] (83, I, R0 p) none (83, w, R0 p) := by
  intro n
  induction n with
  | zero => intro v1 v2 v3 I w hg; cases hg
  | succ n ih =>
    intro v1 v2 v3 I w hg
    unfold g_X9_copy_2 at hg
    refine TT_go 2 (pc' := 5) (lv' := [(0, .ref 55), (1, .int v1), (2, .int v2), (3, .int v3)]) (st' := [.int 16, .int v3]) (h2 := (83, I, R0 p)) (by rfl) ?_
    by_cases hc1 : 16 ≤ v3
    · rw [if_pos hc1] at hg
      refine TT_ige_t (t := 36) rfl rfl hc1 ?_
      refine TT_go 2 (pc' := 38) (lv' := [(3, .int 0), (0, .ref 55), (1, .int v1), (2, .int v2)]) (st' := []) (h2 := (83, I, R0 p)) (by rfl) ?_
      refine TT_sub (lv2 := [(0, .ref 55), (1, .int v1), (2, .int v2), (3, .int 0)]) rfl rfl ⟨rfl, rfl, rfl, rfl, trivial⟩ ?_
      exact t_X9_copy_38 n v1 v2 0 _ _ hg
    · rw [if_neg hc1] at hg
      refine TT_ige_f (t := 36) rfl rfl hc1 ?_
      refine TT_go 14 (pc' := 28) (lv' := [(0, .ref 55), (1, .int v1), (2, .int v2), (3, .int v3)]) (st' := [.int ((16 * v1) + v3), .ref 74, .int ((16 * v2) + v3), .ref 74]) (h2 := (83, I, R0 p)) (by rfl) ?_
      by_cases hb12 : inB ((16 * v1) + v3) 64 = true
      rotate_left
      · rw [if_neg hb12] at hg; cases hg
      rw [if_pos hb12] at hg
      refine TT_iald (n := 64) rfl (by rfl) hb12 ?_
      obtain ⟨x13, hx13⟩ : ∃ x : Int32, x = (I 74 (Int32.toNatClampNeg ((16 * v1) + v3))) := ⟨_, rfl⟩
      replace hg := bnd_use hx13 hg
      refine TT_go 0 (pc' := 29) (lv' := [(0, .ref 55), (1, .int v1), (2, .int v2), (3, .int v3)]) (st' := [.int x13, .int ((16 * v2) + v3), .ref 74]) (h2 := (83, I, R0 p)) (by subst hx13; rfl) ?_
      by_cases hb14 : inB ((16 * v2) + v3) 64 = true
      rotate_left
      · rw [if_neg hb14] at hg; cases hg
      rw [if_pos hb14] at hg
      refine TT_iast (n := 64) rfl (by rfl) hb14 ?_
      obtain ⟨J15, hJ15⟩ : ∃ x : IH, x = (up2 I 74 (Int32.toNatClampNeg ((16 * v2) + v3)) x13) := ⟨_, rfl⟩
      replace hg := bnd_use hJ15 hg
      refine TT_go 0 (pc' := 30) (lv' := [(0, .ref 55), (1, .int v1), (2, .int v2), (3, .int v3)]) (st' := []) (h2 := (83, J15, R0 p)) (by subst hJ15; rfl) ?_
      obtain ⟨x16, hx16⟩ : ∃ x : Int32, x = (v3 + 1) := ⟨_, rfl⟩
      replace hg := bnd_use hx16 hg
      refine TT_go 1 (pc' := 33) (lv' := [(3, .int x16), (0, .ref 55), (1, .int v1), (2, .int v2)]) (st' := []) (h2 := (83, J15, R0 p)) (by subst hx16; rfl) ?_
      refine TT_go 1 (pc' := 2) (lv' := [(3, .int x16), (0, .ref 55), (1, .int v1), (2, .int v2)]) (st' := []) (h2 := (83, J15, R0 p)) (by rfl) ?_
      refine TT_sub (lv2 := [(0, .ref 55), (1, .int v1), (2, .int v2), (3, .int x16)]) rfl rfl ⟨rfl, rfl, rfl, rfl, trivial⟩ ?_
      exact ih v1 v2 x16 _ _ hg
def g_X9_copy (n : Nat) (a0 : Int32) (a1 : Int32) (I : IH) : Option (IH) :=
  g_X9_copy_2 n a0 a1 0 I
set_option maxRecDepth 20000 in
theorem t_X9_copy {p : Nat} {n : Nat} {a0 : Int32} {a1 : Int32} {I : IH} {w : IH} (hg : g_X9_copy n a0 a1 I = some w) : TT none mt_X9_copy 0 (lv_args 0 [.ref 55, .int a0, .int a1]) [] (83, I, R0 p) none (83, w, R0 p) := by
  unfold g_X9_copy at hg
  refine TT_go 2 (pc' := 2) (lv' := [(3, .int 0), (0, .ref 55), (1, .int a0), (2, .int a1)]) (st' := []) (h2 := (83, I, R0 p)) (by rfl) ?_
  refine TT_sub (lv2 := [(0, .ref 55), (1, .int a0), (2, .int a1), (3, .int 0)]) rfl rfl ⟨rfl, rfl, rfl, rfl, trivial⟩ ?_
  exact t_X9_copy_2 n a0 a1 0 _ _ hg
