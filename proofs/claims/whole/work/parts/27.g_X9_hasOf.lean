/-! Written by wip/whole/gen20.py. -/
def g_X9_hasOf_128 (n : Nat) (k5 : Int32 → Int32 → Int32 → Int32 → IH → Option (Int32 × IH)) (v1 : Int32) (v2 : Int32) (v4 : Int32) (t0 : Int32) (t1 : Int32) (I : IH) : Option (Int32 × IH) :=
  bnd ((t1 + t0)) fun x21 =>
  bnd (v4 + 1) fun x22 =>
  k5 v1 v2 x21 x22 I
set_option maxRecDepth 20000 in
theorem t_X9_hasOf_128 {p : Nat} {n : Nat} {k5 : Int32 → Int32 → Int32 → Int32 → IH → Option (Int32 × IH)} (hk5 : ∀ (v1 : Int32) (v2 : Int32) (v3 : Int32) (v4 : Int32) (I : IH) (w : Int32 × IH), k5 v1 v2 v3 v4 I = some w → TT none mt_X9_hasOf 5 [(0, .ref 55), (1, .int v1), (2, .int v2), (3, .int v3), (4, .int v4)] [] (83, I, R0 p) (some (.int w.1)) (83, w.2, R0 p)) {v1 : Int32} {v2 : Int32} {v4 : Int32} {t0 : Int32} {t1 : Int32} {I : IH} {w : Int32 × IH} (hg : g_X9_hasOf_128 n k5 v1 v2 v4 t0 t1 I = some w) : TT none mt_X9_hasOf 128 [(0, .ref 55), (1, .int v1), (2, .int v2), (4, .int v4)] [.int t0, .int t1] (83, I, R0 p) (some (.int w.1)) (83, w.2, R0 p) := by
  unfold g_X9_hasOf_128 at hg
  obtain ⟨x21, hx21⟩ : ∃ x : Int32, x = ((t1 + t0)) := ⟨_, rfl⟩
  replace hg := bnd_use hx21 hg
  refine TT_go 2 (pc' := 130) (lv' := [(3, .int x21), (0, .ref 55), (1, .int v1), (2, .int v2), (4, .int v4)]) (st' := []) (h2 := (83, I, R0 p)) (by subst hx21; rfl) ?_
  obtain ⟨x22, hx22⟩ : ∃ x : Int32, x = (v4 + 1) := ⟨_, rfl⟩
  replace hg := bnd_use hx22 hg
  refine TT_go 1 (pc' := 133) (lv' := [(4, .int x22), (3, .int x21), (0, .ref 55), (1, .int v1), (2, .int v2)]) (st' := []) (h2 := (83, I, R0 p)) (by subst hx22; rfl) ?_
  refine TT_go 1 (pc' := 5) (lv' := [(4, .int x22), (3, .int x21), (0, .ref 55), (1, .int v1), (2, .int v2)]) (st' := []) (h2 := (83, I, R0 p)) (by rfl) ?_
  refine TT_sub (lv2 := [(0, .ref 55), (1, .int v1), (2, .int v2), (3, .int x21), (4, .int x22)]) rfl rfl ⟨rfl, rfl, rfl, rfl, rfl, trivial⟩ ?_
  exact hk5 v1 v2 x21 x22 _ _ hg
def g_X9_hasOf_94 (n : Nat) (k5 : Int32 → Int32 → Int32 → Int32 → IH → Option (Int32 × IH)) (v1 : Int32) (v2 : Int32) (v4 : Int32) (t0 : Int32) (t1 : Int32) (I : IH) : Option (Int32 × IH) :=
  bnd ((t1 + t0)) fun x15 =>
  if inB v4 16 = true then
    bnd (I 60 (Int32.toNatClampNeg v4)) fun x17 =>
    if x17 = v2 then
      if inB (((16 * v1) + (2 * v4)) + 1) 64 = true then
        bnd (I 74 (Int32.toNatClampNeg (((16 * v1) + (2 * v4)) + 1))) fun x20 =>
        g_X9_hasOf_128 n k5 v1 v2 v4 x20 x15 I
      else none
    else
      g_X9_hasOf_128 n k5 v1 v2 v4 0 x15 I
  else none
set_option maxRecDepth 20000 in
theorem t_X9_hasOf_94 {p : Nat} {n : Nat} {k5 : Int32 → Int32 → Int32 → Int32 → IH → Option (Int32 × IH)} (hk5 : ∀ (v1 : Int32) (v2 : Int32) (v3 : Int32) (v4 : Int32) (I : IH) (w : Int32 × IH), k5 v1 v2 v3 v4 I = some w → TT none mt_X9_hasOf 5 [(0, .ref 55), (1, .int v1), (2, .int v2), (3, .int v3), (4, .int v4)] [] (83, I, R0 p) (some (.int w.1)) (83, w.2, R0 p)) {v1 : Int32} {v2 : Int32} {v4 : Int32} {t0 : Int32} {t1 : Int32} {I : IH} {w : Int32 × IH} (hg : g_X9_hasOf_94 n k5 v1 v2 v4 t0 t1 I = some w) : TT none mt_X9_hasOf 94 [(0, .ref 55), (1, .int v1), (2, .int v2), (4, .int v4)] [.int t0, .int t1] (83, I, R0 p) (some (.int w.1)) (83, w.2, R0 p) := by
  unfold g_X9_hasOf_94 at hg
  obtain ⟨x15, hx15⟩ : ∃ x : Int32, x = ((t1 + t0)) := ⟨_, rfl⟩
  replace hg := bnd_use hx15 hg
  refine TT_go 2 (pc' := 96) (lv' := [(3, .int x15), (0, .ref 55), (1, .int v1), (2, .int v2), (4, .int v4)]) (st' := []) (h2 := (83, I, R0 p)) (by subst hx15; rfl) ?_
  refine TT_go 4 (pc' := 103) (lv' := [(3, .int x15), (0, .ref 55), (1, .int v1), (2, .int v2), (4, .int v4)]) (st' := [.int v4, .ref 60, .int x15]) (h2 := (83, I, R0 p)) (by rfl) ?_
  by_cases hb16 : inB v4 16 = true
  rotate_left
  · rw [if_neg hb16] at hg; cases hg
  rw [if_pos hb16] at hg
  refine TT_iald (n := 16) rfl (by rfl) hb16 ?_
  obtain ⟨x17, hx17⟩ : ∃ x : Int32, x = (I 60 (Int32.toNatClampNeg v4)) := ⟨_, rfl⟩
  replace hg := bnd_use hx17 hg
  refine TT_go 0 (pc' := 104) (lv' := [(3, .int x15), (0, .ref 55), (1, .int v1), (2, .int v2), (4, .int v4)]) (st' := [.int x17, .int x15]) (h2 := (83, I, R0 p)) (by subst hx17; rfl) ?_
  refine TT_go 1 (pc' := 105) (lv' := [(3, .int x15), (0, .ref 55), (1, .int v1), (2, .int v2), (4, .int v4)]) (st' := [.int v2, .int x17, .int x15]) (h2 := (83, I, R0 p)) (by rfl) ?_
  by_cases hc18 : x17 = v2
  · rw [if_pos hc18] at hg
    refine TT_ine_f (t := 127) rfl rfl hc18 ?_
    refine TT_go 11 (pc' := 123) (lv' := [(3, .int x15), (0, .ref 55), (1, .int v1), (2, .int v2), (4, .int v4)]) (st' := [.int (((16 * v1) + (2 * v4)) + 1), .ref 74, .int x15]) (h2 := (83, I, R0 p)) (by rfl) ?_
    by_cases hb19 : inB (((16 * v1) + (2 * v4)) + 1) 64 = true
    rotate_left
    · rw [if_neg hb19] at hg; cases hg
    rw [if_pos hb19] at hg
    refine TT_iald (n := 64) rfl (by rfl) hb19 ?_
    obtain ⟨x20, hx20⟩ : ∃ x : Int32, x = (I 74 (Int32.toNatClampNeg (((16 * v1) + (2 * v4)) + 1))) := ⟨_, rfl⟩
    replace hg := bnd_use hx20 hg
    refine TT_go 0 (pc' := 124) (lv' := [(3, .int x15), (0, .ref 55), (1, .int v1), (2, .int v2), (4, .int v4)]) (st' := [.int x20, .int x15]) (h2 := (83, I, R0 p)) (by subst hx20; rfl) ?_
    refine TT_go 1 (pc' := 128) (lv' := [(3, .int x15), (0, .ref 55), (1, .int v1), (2, .int v2), (4, .int v4)]) (st' := [.int x20, .int x15]) (h2 := (83, I, R0 p)) (by rfl) ?_
    refine TT_sub (lv2 := [(0, .ref 55), (1, .int v1), (2, .int v2), (4, .int v4)]) rfl rfl ⟨rfl, rfl, rfl, rfl, trivial⟩ ?_
    exact t_X9_hasOf_128 hk5 hg
  · rw [if_neg hc18] at hg
    refine TT_ine_t (t := 127) rfl rfl hc18 ?_
    refine TT_go 1 (pc' := 128) (lv' := [(3, .int x15), (0, .ref 55), (1, .int v1), (2, .int v2), (4, .int v4)]) (st' := [.int 0, .int x15]) (h2 := (83, I, R0 p)) (by rfl) ?_
    refine TT_sub (lv2 := [(0, .ref 55), (1, .int v1), (2, .int v2), (4, .int v4)]) rfl rfl ⟨rfl, rfl, rfl, rfl, trivial⟩ ?_
    exact t_X9_hasOf_128 hk5 hg
def g_X9_hasOf_71 (n : Nat) (k5 : Int32 → Int32 → Int32 → Int32 → IH → Option (Int32 × IH)) (v1 : Int32) (v2 : Int32) (v4 : Int32) (v5 : Int32) (v6 : Int32) (t0 : Int32) (t1 : Int32) (I : IH) : Option (Int32 × IH) :=
  bnd ((t1 + t0)) fun x11 =>
  if inB v4 16 = true then
    bnd (I 59 (Int32.toNatClampNeg v4)) fun x13 =>
    if x13 = v2 then
      g_X9_hasOf_94 n k5 v1 v2 v4 ((v5 - v6)) x11 I
    else
      g_X9_hasOf_94 n k5 v1 v2 v4 0 x11 I
  else none
set_option maxRecDepth 20000 in
theorem t_X9_hasOf_71 {p : Nat} {n : Nat} {k5 : Int32 → Int32 → Int32 → Int32 → IH → Option (Int32 × IH)} (hk5 : ∀ (v1 : Int32) (v2 : Int32) (v3 : Int32) (v4 : Int32) (I : IH) (w : Int32 × IH), k5 v1 v2 v3 v4 I = some w → TT none mt_X9_hasOf 5 [(0, .ref 55), (1, .int v1), (2, .int v2), (3, .int v3), (4, .int v4)] [] (83, I, R0 p) (some (.int w.1)) (83, w.2, R0 p)) {v1 : Int32} {v2 : Int32} {v4 : Int32} {v5 : Int32} {v6 : Int32} {t0 : Int32} {t1 : Int32} {I : IH} {w : Int32 × IH} (hg : g_X9_hasOf_71 n k5 v1 v2 v4 v5 v6 t0 t1 I = some w) : TT none mt_X9_hasOf 71 [(0, .ref 55), (1, .int v1), (2, .int v2), (4, .int v4), (5, .int v5), (6, .int v6)] [.int t0, .int t1] (83, I, R0 p) (some (.int w.1)) (83, w.2, R0 p) := by
  unfold g_X9_hasOf_71 at hg
  obtain ⟨x11, hx11⟩ : ∃ x : Int32, x = ((t1 + t0)) := ⟨_, rfl⟩
  replace hg := bnd_use hx11 hg
  refine TT_go 2 (pc' := 73) (lv' := [(3, .int x11), (0, .ref 55), (1, .int v1), (2, .int v2), (4, .int v4), (5, .int v5), (6, .int v6)]) (st' := []) (h2 := (83, I, R0 p)) (by subst hx11; rfl) ?_
  refine TT_go 4 (pc' := 80) (lv' := [(3, .int x11), (0, .ref 55), (1, .int v1), (2, .int v2), (4, .int v4), (5, .int v5), (6, .int v6)]) (st' := [.int v4, .ref 59, .int x11]) (h2 := (83, I, R0 p)) (by rfl) ?_
  by_cases hb12 : inB v4 16 = true
  rotate_left
  · rw [if_neg hb12] at hg; cases hg
  rw [if_pos hb12] at hg
  refine TT_iald (n := 16) rfl (by rfl) hb12 ?_
  obtain ⟨x13, hx13⟩ : ∃ x : Int32, x = (I 59 (Int32.toNatClampNeg v4)) := ⟨_, rfl⟩
  replace hg := bnd_use hx13 hg
  refine TT_go 0 (pc' := 81) (lv' := [(3, .int x11), (0, .ref 55), (1, .int v1), (2, .int v2), (4, .int v4), (5, .int v5), (6, .int v6)]) (st' := [.int x13, .int x11]) (h2 := (83, I, R0 p)) (by subst hx13; rfl) ?_
  refine TT_go 1 (pc' := 82) (lv' := [(3, .int x11), (0, .ref 55), (1, .int v1), (2, .int v2), (4, .int v4), (5, .int v5), (6, .int v6)]) (st' := [.int v2, .int x13, .int x11]) (h2 := (83, I, R0 p)) (by rfl) ?_
  by_cases hc14 : x13 = v2
  · rw [if_pos hc14] at hg
    refine TT_ine_f (t := 93) rfl rfl hc14 ?_
    refine TT_go 4 (pc' := 94) (lv' := [(3, .int x11), (0, .ref 55), (1, .int v1), (2, .int v2), (4, .int v4), (5, .int v5), (6, .int v6)]) (st' := [.int (v5 - v6), .int x11]) (h2 := (83, I, R0 p)) (by rfl) ?_
    refine TT_sub (lv2 := [(0, .ref 55), (1, .int v1), (2, .int v2), (4, .int v4)]) rfl rfl ⟨rfl, rfl, rfl, rfl, trivial⟩ ?_
    exact t_X9_hasOf_94 hk5 hg
  · rw [if_neg hc14] at hg
    refine TT_ine_t (t := 93) rfl rfl hc14 ?_
    refine TT_go 1 (pc' := 94) (lv' := [(3, .int x11), (0, .ref 55), (1, .int v1), (2, .int v2), (4, .int v4), (5, .int v5), (6, .int v6)]) (st' := [.int 0, .int x11]) (h2 := (83, I, R0 p)) (by rfl) ?_
    refine TT_sub (lv2 := [(0, .ref 55), (1, .int v1), (2, .int v2), (4, .int v4)]) rfl rfl ⟨rfl, rfl, rfl, rfl, trivial⟩ ?_
    exact t_X9_hasOf_94 hk5 hg
def g_X9_hasOf_51 (n : Nat) (k5 : Int32 → Int32 → Int32 → Int32 → IH → Option (Int32 × IH)) (v1 : Int32) (v2 : Int32) (v3 : Int32) (v4 : Int32) (v5 : Int32) (t0 : Int32) (I : IH) : Option (Int32 × IH) :=
  if inB v4 16 = true then
    bnd (I 64 (Int32.toNatClampNeg v4)) fun x9 =>
    if x9 = v2 then
      g_X9_hasOf_71 n k5 v1 v2 v4 v5 t0 t0 v3 I
    else
      g_X9_hasOf_71 n k5 v1 v2 v4 v5 t0 0 v3 I
  else none
set_option maxRecDepth 20000 in
theorem t_X9_hasOf_51 {p : Nat} {n : Nat} {k5 : Int32 → Int32 → Int32 → Int32 → IH → Option (Int32 × IH)} (hk5 : ∀ (v1 : Int32) (v2 : Int32) (v3 : Int32) (v4 : Int32) (I : IH) (w : Int32 × IH), k5 v1 v2 v3 v4 I = some w → TT none mt_X9_hasOf 5 [(0, .ref 55), (1, .int v1), (2, .int v2), (3, .int v3), (4, .int v4)] [] (83, I, R0 p) (some (.int w.1)) (83, w.2, R0 p)) {v1 : Int32} {v2 : Int32} {v3 : Int32} {v4 : Int32} {v5 : Int32} {t0 : Int32} {I : IH} {w : Int32 × IH} (hg : g_X9_hasOf_51 n k5 v1 v2 v3 v4 v5 t0 I = some w) : TT none mt_X9_hasOf 51 [(0, .ref 55), (1, .int v1), (2, .int v2), (3, .int v3), (4, .int v4), (5, .int v5)] [.int t0] (83, I, R0 p) (some (.int w.1)) (83, w.2, R0 p) := by
  unfold g_X9_hasOf_51 at hg
  refine TT_go 5 (pc' := 60) (lv' := [(6, .int t0), (0, .ref 55), (1, .int v1), (2, .int v2), (3, .int v3), (4, .int v4), (5, .int v5)]) (st' := [.int v4, .ref 64, .int v3]) (h2 := (83, I, R0 p)) (by rfl) ?_
  by_cases hb8 : inB v4 16 = true
  rotate_left
  · rw [if_neg hb8] at hg; cases hg
  rw [if_pos hb8] at hg
  refine TT_iald (n := 16) rfl (by rfl) hb8 ?_
  obtain ⟨x9, hx9⟩ : ∃ x : Int32, x = (I 64 (Int32.toNatClampNeg v4)) := ⟨_, rfl⟩
  replace hg := bnd_use hx9 hg
  refine TT_go 0 (pc' := 61) (lv' := [(6, .int t0), (0, .ref 55), (1, .int v1), (2, .int v2), (3, .int v3), (4, .int v4), (5, .int v5)]) (st' := [.int x9, .int v3]) (h2 := (83, I, R0 p)) (by subst hx9; rfl) ?_
  refine TT_go 1 (pc' := 62) (lv' := [(6, .int t0), (0, .ref 55), (1, .int v1), (2, .int v2), (3, .int v3), (4, .int v4), (5, .int v5)]) (st' := [.int v2, .int x9, .int v3]) (h2 := (83, I, R0 p)) (by rfl) ?_
  by_cases hc10 : x9 = v2
  · rw [if_pos hc10] at hg
    refine TT_ine_f (t := 70) rfl rfl hc10 ?_
    refine TT_go 2 (pc' := 71) (lv' := [(6, .int t0), (0, .ref 55), (1, .int v1), (2, .int v2), (3, .int v3), (4, .int v4), (5, .int v5)]) (st' := [.int t0, .int v3]) (h2 := (83, I, R0 p)) (by rfl) ?_
    refine TT_sub (lv2 := [(0, .ref 55), (1, .int v1), (2, .int v2), (4, .int v4), (5, .int v5), (6, .int t0)]) rfl rfl ⟨rfl, rfl, rfl, rfl, rfl, rfl, trivial⟩ ?_
    exact t_X9_hasOf_71 hk5 hg
  · rw [if_neg hc10] at hg
    refine TT_ine_t (t := 70) rfl rfl hc10 ?_
    refine TT_go 1 (pc' := 71) (lv' := [(6, .int t0), (0, .ref 55), (1, .int v1), (2, .int v2), (3, .int v3), (4, .int v4), (5, .int v5)]) (st' := [.int 0, .int v3]) (h2 := (83, I, R0 p)) (by rfl) ?_
    refine TT_sub (lv2 := [(0, .ref 55), (1, .int v1), (2, .int v2), (4, .int v4), (5, .int v5), (6, .int t0)]) rfl rfl ⟨rfl, rfl, rfl, rfl, rfl, rfl, trivial⟩ ?_
    exact t_X9_hasOf_71 hk5 hg
def g_X9_hasOf_5 : Nat → Int32 → Int32 → Int32 → Int32 → IH → Option (Int32 × IH)
  | 0, _, _, _, _, _ => none
  | n + 1, v1, v2, v3, v4, I =>
    bnd (I 57 0) fun x1 =>
    if x1 ≤ v4 then
      some (v3, I)
    else
      if inB ((16 * v1) + (2 * v4)) 64 = true then
        bnd (I 74 (Int32.toNatClampNeg ((16 * v1) + (2 * v4)))) fun x4 =>
        if inB v4 16 = true then
          bnd (I 58 (Int32.toNatClampNeg v4)) fun x6 =>
          if x6 = 2 then
            g_X9_hasOf_51 n (g_X9_hasOf_5 n) v1 v2 v3 v4 x4 ((x4 / 2)) I
          else
            g_X9_hasOf_51 n (g_X9_hasOf_5 n) v1 v2 v3 v4 x4 0 I
        else none
      else none
set_option maxRecDepth 20000 in
theorem t_X9_hasOf_5 {p : Nat} : ∀ (n : Nat) (v1 : Int32) (v2 : Int32) (v3 : Int32) (v4 : Int32) (I : IH) (w : Int32 × IH), g_X9_hasOf_5 n v1 v2 v3 v4 I = some w → TT none mt_X9_hasOf 5 [(0, .ref 55), (1, .int v1), (2, .int v2), (3, .int v3), (4, .int v4)] [] (83, I, R0 p) (some (.int w.1)) (83, w.2, R0 p) := by
  intro n
  induction n with
  | zero => intro v1 v2 v3 v4 I w hg; cases hg
  | succ n ih =>
    intro v1 v2 v3 v4 I w hg
    unfold g_X9_hasOf_5 at hg
    obtain ⟨x1, hx1⟩ : ∃ x : Int32, x = (I 57 0) := ⟨_, rfl⟩
    replace hg := bnd_use hx1 hg
    refine TT_go 5 (pc' := 13) (lv' := [(0, .ref 55), (1, .int v1), (2, .int v2), (3, .int v3), (4, .int v4)]) (st' := [.int x1, .int v4]) (h2 := (83, I, R0 p)) (by subst hx1; rfl) ?_
    by_cases hc2 : x1 ≤ v4
    · rw [if_pos hc2] at hg
      refine TT_ige_t (t := 136) rfl rfl hc2 ?_
      refine TT_go 1 (pc' := 137) (lv' := [(0, .ref 55), (1, .int v1), (2, .int v2), (3, .int v3), (4, .int v4)]) (st' := [.int v3]) (h2 := (83, I, R0 p)) (by rfl) ?_
      have hg := Option.some.inj hg
      subst hg
      exact TT_ret rfl rfl
    · rw [if_neg hc2] at hg
      refine TT_ige_f (t := 136) rfl rfl hc2 ?_
      refine TT_go 9 (pc' := 29) (lv' := [(0, .ref 55), (1, .int v1), (2, .int v2), (3, .int v3), (4, .int v4)]) (st' := [.int ((16 * v1) + (2 * v4)), .ref 74]) (h2 := (83, I, R0 p)) (by rfl) ?_
      by_cases hb3 : inB ((16 * v1) + (2 * v4)) 64 = true
      rotate_left
      · rw [if_neg hb3] at hg; cases hg
      rw [if_pos hb3] at hg
      refine TT_iald (n := 64) rfl (by rfl) hb3 ?_
      obtain ⟨x4, hx4⟩ : ∃ x : Int32, x = (I 74 (Int32.toNatClampNeg ((16 * v1) + (2 * v4)))) := ⟨_, rfl⟩
      replace hg := bnd_use hx4 hg
      refine TT_go 0 (pc' := 30) (lv' := [(0, .ref 55), (1, .int v1), (2, .int v2), (3, .int v3), (4, .int v4)]) (st' := [.int x4]) (h2 := (83, I, R0 p)) (by subst hx4; rfl) ?_
      refine TT_go 4 (pc' := 38) (lv' := [(5, .int x4), (0, .ref 55), (1, .int v1), (2, .int v2), (3, .int v3), (4, .int v4)]) (st' := [.int v4, .ref 58]) (h2 := (83, I, R0 p)) (by rfl) ?_
      by_cases hb5 : inB v4 16 = true
      rotate_left
      · rw [if_neg hb5] at hg; cases hg
      rw [if_pos hb5] at hg
      refine TT_iald (n := 16) rfl (by rfl) hb5 ?_
      obtain ⟨x6, hx6⟩ : ∃ x : Int32, x = (I 58 (Int32.toNatClampNeg v4)) := ⟨_, rfl⟩
      replace hg := bnd_use hx6 hg
      refine TT_go 0 (pc' := 39) (lv' := [(5, .int x4), (0, .ref 55), (1, .int v1), (2, .int v2), (3, .int v3), (4, .int v4)]) (st' := [.int x6]) (h2 := (83, I, R0 p)) (by subst hx6; rfl) ?_
      refine TT_go 1 (pc' := 40) (lv' := [(5, .int x4), (0, .ref 55), (1, .int v1), (2, .int v2), (3, .int v3), (4, .int v4)]) (st' := [.int 2, .int x6]) (h2 := (83, I, R0 p)) (by rfl) ?_
      by_cases hc7 : x6 = 2
      · rw [if_pos hc7] at hg
        refine TT_ine_f (t := 50) rfl rfl hc7 ?_
        refine TT_go 4 (pc' := 51) (lv' := [(5, .int x4), (0, .ref 55), (1, .int v1), (2, .int v2), (3, .int v3), (4, .int v4)]) (st' := [.int (x4 / 2)]) (h2 := (83, I, R0 p)) (by rfl) ?_
        refine TT_sub (lv2 := [(0, .ref 55), (1, .int v1), (2, .int v2), (3, .int v3), (4, .int v4), (5, .int x4)]) rfl rfl ⟨rfl, rfl, rfl, rfl, rfl, rfl, trivial⟩ ?_
        exact t_X9_hasOf_51 ih hg
      · rw [if_neg hc7] at hg
        refine TT_ine_t (t := 50) rfl rfl hc7 ?_
        refine TT_go 1 (pc' := 51) (lv' := [(5, .int x4), (0, .ref 55), (1, .int v1), (2, .int v2), (3, .int v3), (4, .int v4)]) (st' := [.int 0]) (h2 := (83, I, R0 p)) (by rfl) ?_
        refine TT_sub (lv2 := [(0, .ref 55), (1, .int v1), (2, .int v2), (3, .int v3), (4, .int v4), (5, .int x4)]) rfl rfl ⟨rfl, rfl, rfl, rfl, rfl, rfl, trivial⟩ ?_
        exact t_X9_hasOf_51 ih hg
def g_X9_hasOf (n : Nat) (a0 : Int32) (a1 : Int32) (I : IH) : Option (Int32 × IH) :=
  g_X9_hasOf_5 n a0 a1 0 0 I
set_option maxRecDepth 20000 in
theorem t_X9_hasOf {p : Nat} {n : Nat} {a0 : Int32} {a1 : Int32} {I : IH} {w : Int32 × IH} (hg : g_X9_hasOf n a0 a1 I = some w) : TT none mt_X9_hasOf 0 (lv_args 0 [.ref 55, .int a0, .int a1]) [] (83, I, R0 p) (some (.int w.1)) (83, w.2, R0 p) := by
  unfold g_X9_hasOf at hg
  refine TT_go 4 (pc' := 5) (lv' := [(4, .int 0), (3, .int 0), (0, .ref 55), (1, .int a0), (2, .int a1)]) (st' := []) (h2 := (83, I, R0 p)) (by rfl) ?_
  refine TT_sub (lv2 := [(0, .ref 55), (1, .int a0), (2, .int a1), (3, .int 0), (4, .int 0)]) rfl rfl ⟨rfl, rfl, rfl, rfl, rfl, trivial⟩ ?_
  exact t_X9_hasOf_5 n a0 a1 0 0 _ _ hg
def g_X9_has (n : Nat) (a0 : Int32) (I : IH) : Option (Int32 × IH) :=
  match g_X9_isHand n a0 I with
  | none => none
  | some (r4, J3) =>
    if r4 = 0 then
      some ((-1), J3)
    else
      match g_X9_hasOf n 0 a0 J3 with
      | none => none
      | some (r9, J8) =>
        some (r9, J8)
set_option maxRecDepth 20000 in
theorem t_X9_has {p : Nat} {n : Nat} {a0 : Int32} {I : IH} {w : Int32 × IH} (hg : g_X9_has n a0 I = some w) : TT none mt_X9_has 0 (lv_args 0 [.ref 55, .int a0]) [] (83, I, R0 p) (some (.int w.1)) (83, w.2, R0 p) := by
  unfold g_X9_has at hg
  refine TT_go 1 (pc' := 1) (lv' := [(0, .ref 55), (1, .int a0)]) (st' := [.int a0]) (h2 := (83, I, R0 p)) (by rfl) ?_
  cases hq1 : g_X9_isHand n a0 I with
  | none => rw [hq1] at hg; cases hg
  | some w2 =>
    obtain ⟨r4, J3⟩ := w2
    rw [hq1] at hg
    dsimp only at hg
    refine TT_call (me' := mt_X9_isHand) (as := [.int a0]) (rest := []) (r1 := some (.int r4)) (h1 := (83, J3, R0 p)) rfl rfl (by rfl) (t_X9_isHand hq1) ?_
    refine TT_go 0 (pc' := 4) (lv' := [(0, .ref 55), (1, .int a0)]) (st' := [.int r4]) (h2 := (83, J3, R0 p)) (by rfl) ?_
    by_cases hc5 : r4 = 0
    · rw [if_pos hc5] at hg
      refine TT_zeq_t (t := 16) rfl rfl hc5 ?_
      refine TT_go 1 (pc' := 17) (lv' := [(0, .ref 55), (1, .int a0)]) (st' := [.int (-1)]) (h2 := (83, J3, R0 p)) (by rfl) ?_
      have hg := Option.some.inj hg
      subst hg
      exact TT_ret rfl rfl
    · rw [if_neg hc5] at hg
      refine TT_zeq_f (t := 16) rfl rfl hc5 ?_
      refine TT_go 3 (pc' := 10) (lv' := [(0, .ref 55), (1, .int a0)]) (st' := [.int a0, .int 0, .ref 55]) (h2 := (83, J3, R0 p)) (by rfl) ?_
      cases hq6 : g_X9_hasOf n 0 a0 J3 with
      | none => rw [hq6] at hg; cases hg
      | some w7 =>
        obtain ⟨r9, J8⟩ := w7
        rw [hq6] at hg
        dsimp only at hg
        refine TT_call (me' := mt_X9_hasOf) (as := [.ref 55, .int 0, .int a0]) (rest := []) (r1 := some (.int r9)) (h1 := (83, J8, R0 p)) rfl rfl (by rfl) (t_X9_hasOf hq6) ?_
        refine TT_go 1 (pc' := 17) (lv' := [(0, .ref 55), (1, .int a0)]) (st' := [.int r9]) (h2 := (83, J8, R0 p)) (by rfl) ?_
        have hg := Option.some.inj hg
        subst hg
        exact TT_ret rfl rfl
def g_X9_tiedTo_60 (n : Nat) (k6 : Int32 → Int32 → IH → Option (Int32 × IH)) (k15 : Int32 → Int32 → Int32 → IH → Option (Int32 × IH)) (v3 : Int32) (v4 : Int32) (t0 : Int32) (t1 : Int32) (I : IH) : Option (Int32 × IH) :=
  bnd ((t1 ||| t0)) fun x13 =>
  bnd (v4 + 1) fun x14 =>
  k15 x13 v3 x14 I
set_option maxRecDepth 20000 in
theorem t_X9_tiedTo_60 {p : Nat} {n : Nat} {k6 : Int32 → Int32 → IH → Option (Int32 × IH)} {k15 : Int32 → Int32 → Int32 → IH → Option (Int32 × IH)} (hk6 : ∀ (v2 : Int32) (v3 : Int32) (I : IH) (w : Int32 × IH), k6 v2 v3 I = some w → TT none mt_X9_tiedTo 6 [(0, .ref 55), (2, .int v2), (3, .int v3)] [] (83, I, R0 p) (some (.int w.1)) (83, w.2, R0 p)) (hk15 : ∀ (v2 : Int32) (v3 : Int32) (v4 : Int32) (I : IH) (w : Int32 × IH), k15 v2 v3 v4 I = some w → TT none mt_X9_tiedTo 15 [(0, .ref 55), (2, .int v2), (3, .int v3), (4, .int v4)] [] (83, I, R0 p) (some (.int w.1)) (83, w.2, R0 p)) {v3 : Int32} {v4 : Int32} {t0 : Int32} {t1 : Int32} {I : IH} {w : Int32 × IH} (hg : g_X9_tiedTo_60 n k6 k15 v3 v4 t0 t1 I = some w) : TT none mt_X9_tiedTo 60 [(0, .ref 55), (3, .int v3), (4, .int v4)] [.int t0, .int t1] (83, I, R0 p) (some (.int w.1)) (83, w.2, R0 p) := by
  unfold g_X9_tiedTo_60 at hg
  obtain ⟨x13, hx13⟩ : ∃ x : Int32, x = ((t1 ||| t0)) := ⟨_, rfl⟩
  replace hg := bnd_use hx13 hg
  refine TT_go 2 (pc' := 62) (lv' := [(2, .int x13), (0, .ref 55), (3, .int v3), (4, .int v4)]) (st' := []) (h2 := (83, I, R0 p)) (by subst hx13; rfl) ?_
  obtain ⟨x14, hx14⟩ : ∃ x : Int32, x = (v4 + 1) := ⟨_, rfl⟩
  replace hg := bnd_use hx14 hg
  refine TT_go 1 (pc' := 65) (lv' := [(4, .int x14), (2, .int x13), (0, .ref 55), (3, .int v3)]) (st' := []) (h2 := (83, I, R0 p)) (by subst hx14; rfl) ?_
  refine TT_go 1 (pc' := 15) (lv' := [(4, .int x14), (2, .int x13), (0, .ref 55), (3, .int v3)]) (st' := []) (h2 := (83, I, R0 p)) (by rfl) ?_
  refine TT_sub (lv2 := [(0, .ref 55), (2, .int x13), (3, .int v3), (4, .int x14)]) rfl rfl ⟨rfl, rfl, rfl, rfl, trivial⟩ ?_
  exact hk15 x13 v3 x14 _ _ hg
def g_X9_tiedTo_15 (k6 : Int32 → Int32 → IH → Option (Int32 × IH)) : Nat → Int32 → Int32 → Int32 → IH → Option (Int32 × IH)
  | 0, _, _, _, _ => none
  | n + 1, v2, v3, v4, I =>
    bnd (I 65 0) fun x3 =>
    if x3 ≤ v4 then
      bnd (v3 + 1) fun x5 =>
      k6 v2 x5 I
    else
      if inB (2 * v4) 16 = true then
        bnd (I 66 (Int32.toNatClampNeg (2 * v4))) fun x7 =>
        match g_X9_has1 n v2 x7 I with
        | none => none
        | some (r11, J10) =>
          if r11 = 0 then
            g_X9_tiedTo_60 n k6 (g_X9_tiedTo_15 k6 n) v3 v4 0 v2 J10
          else
            if inB ((2 * v4) + 1) 16 = true then
              bnd (J10 66 (Int32.toNatClampNeg ((2 * v4) + 1))) fun x16 =>
              g_X9_tiedTo_60 n k6 (g_X9_tiedTo_15 k6 n) v3 v4 ((1 <<< (x16 &&& 31))) v2 J10
            else none
      else none
set_option maxRecDepth 20000 in
theorem t_X9_tiedTo_15 {p : Nat} {k6 : Int32 → Int32 → IH → Option (Int32 × IH)} (hk6 : ∀ (v2 : Int32) (v3 : Int32) (I : IH) (w : Int32 × IH), k6 v2 v3 I = some w → TT none mt_X9_tiedTo 6 [(0, .ref 55), (2, .int v2), (3, .int v3)] [] (83, I, R0 p) (some (.int w.1)) (83, w.2, R0 p)) : ∀ (n : Nat) (v2 : Int32) (v3 : Int32) (v4 : Int32) (I : IH) (w : Int32 × IH), g_X9_tiedTo_15 k6 n v2 v3 v4 I = some w → TT none mt_X9_tiedTo 15 [(0, .ref 55), (2, .int v2), (3, .int v3), (4, .int v4)] [] (83, I, R0 p) (some (.int w.1)) (83, w.2, R0 p) := by
  intro n
  induction n with
  | zero => intro v2 v3 v4 I w hg; cases hg
  | succ n ih =>
    intro v2 v3 v4 I w hg
    unfold g_X9_tiedTo_15 at hg
    obtain ⟨x3, hx3⟩ : ∃ x : Int32, x = (I 65 0) := ⟨_, rfl⟩
    replace hg := bnd_use hx3 hg
    refine TT_go 5 (pc' := 23) (lv' := [(0, .ref 55), (2, .int v2), (3, .int v3), (4, .int v4)]) (st' := [.int x3, .int v4]) (h2 := (83, I, R0 p)) (by subst hx3; rfl) ?_
    by_cases hc4 : x3 ≤ v4
    · rw [if_pos hc4] at hg
      refine TT_ige_t (t := 68) rfl rfl hc4 ?_
      obtain ⟨x5, hx5⟩ : ∃ x : Int32, x = (v3 + 1) := ⟨_, rfl⟩
      replace hg := bnd_use hx5 hg
      refine TT_go 1 (pc' := 71) (lv' := [(3, .int x5), (0, .ref 55), (2, .int v2), (4, .int v4)]) (st' := []) (h2 := (83, I, R0 p)) (by subst hx5; rfl) ?_
      refine TT_go 1 (pc' := 6) (lv' := [(3, .int x5), (0, .ref 55), (2, .int v2), (4, .int v4)]) (st' := []) (h2 := (83, I, R0 p)) (by rfl) ?_
      refine TT_sub (lv2 := [(0, .ref 55), (2, .int v2), (3, .int x5)]) rfl rfl ⟨rfl, rfl, rfl, trivial⟩ ?_
      exact hk6 v2 x5 _ _ hg
    · rw [if_neg hc4] at hg
      refine TT_ige_f (t := 68) rfl rfl hc4 ?_
      refine TT_go 7 (pc' := 36) (lv' := [(0, .ref 55), (2, .int v2), (3, .int v3), (4, .int v4)]) (st' := [.int (2 * v4), .ref 66, .int v2, .int v2]) (h2 := (83, I, R0 p)) (by rfl) ?_
      by_cases hb6 : inB (2 * v4) 16 = true
      rotate_left
      · rw [if_neg hb6] at hg; cases hg
      rw [if_pos hb6] at hg
      refine TT_iald (n := 16) rfl (by rfl) hb6 ?_
      obtain ⟨x7, hx7⟩ : ∃ x : Int32, x = (I 66 (Int32.toNatClampNeg (2 * v4))) := ⟨_, rfl⟩
      replace hg := bnd_use hx7 hg
      refine TT_go 0 (pc' := 37) (lv' := [(0, .ref 55), (2, .int v2), (3, .int v3), (4, .int v4)]) (st' := [.int x7, .int v2, .int v2]) (h2 := (83, I, R0 p)) (by subst hx7; rfl) ?_
      cases hq8 : g_X9_has1 n v2 x7 I with
      | none => rw [hq8] at hg; cases hg
      | some w9 =>
        obtain ⟨r11, J10⟩ := w9
        rw [hq8] at hg
        dsimp only at hg
        refine TT_call (me' := mt_X9_has1) (as := [.int v2, .int x7]) (rest := [.int v2]) (r1 := some (.int r11)) (h1 := (83, J10, R0 p)) rfl rfl (by rfl) (t_X9_has1 hq8) ?_
        refine TT_go 0 (pc' := 40) (lv' := [(0, .ref 55), (2, .int v2), (3, .int v3), (4, .int v4)]) (st' := [.int r11, .int v2]) (h2 := (83, J10, R0 p)) (by rfl) ?_
        by_cases hc12 : r11 = 0
        · rw [if_pos hc12] at hg
          refine TT_zeq_t (t := 59) rfl rfl hc12 ?_
          refine TT_go 1 (pc' := 60) (lv' := [(0, .ref 55), (2, .int v2), (3, .int v3), (4, .int v4)]) (st' := [.int 0, .int v2]) (h2 := (83, J10, R0 p)) (by rfl) ?_
          refine TT_sub (lv2 := [(0, .ref 55), (3, .int v3), (4, .int v4)]) rfl rfl ⟨rfl, rfl, rfl, trivial⟩ ?_
          exact t_X9_tiedTo_60 hk6 ih hg
        · rw [if_neg hc12] at hg
          refine TT_zeq_f (t := 59) rfl rfl hc12 ?_
          refine TT_go 8 (pc' := 54) (lv' := [(0, .ref 55), (2, .int v2), (3, .int v3), (4, .int v4)]) (st' := [.int ((2 * v4) + 1), .ref 66, .int 1, .int v2]) (h2 := (83, J10, R0 p)) (by rfl) ?_
          by_cases hb15 : inB ((2 * v4) + 1) 16 = true
          rotate_left
          · rw [if_neg hb15] at hg; cases hg
          rw [if_pos hb15] at hg
          refine TT_iald (n := 16) rfl (by rfl) hb15 ?_
          obtain ⟨x16, hx16⟩ : ∃ x : Int32, x = (J10 66 (Int32.toNatClampNeg ((2 * v4) + 1))) := ⟨_, rfl⟩
          replace hg := bnd_use hx16 hg
          refine TT_go 0 (pc' := 55) (lv' := [(0, .ref 55), (2, .int v2), (3, .int v3), (4, .int v4)]) (st' := [.int x16, .int 1, .int v2]) (h2 := (83, J10, R0 p)) (by subst hx16; rfl) ?_
          refine TT_go 2 (pc' := 60) (lv' := [(0, .ref 55), (2, .int v2), (3, .int v3), (4, .int v4)]) (st' := [.int (1 <<< (x16 &&& 31)), .int v2]) (h2 := (83, J10, R0 p)) (by rfl) ?_
          refine TT_sub (lv2 := [(0, .ref 55), (3, .int v3), (4, .int v4)]) rfl rfl ⟨rfl, rfl, rfl, trivial⟩ ?_
          exact t_X9_tiedTo_60 hk6 ih hg
def g_X9_tiedTo_6 : Nat → Int32 → Int32 → IH → Option (Int32 × IH)
  | 0, _, _, _ => none
  | n + 1, v2, v3, I =>
    if 8 ≤ v3 then
      some (v2, I)
    else
      g_X9_tiedTo_15 (g_X9_tiedTo_6 n) n v2 v3 0 I
set_option maxRecDepth 20000 in
theorem t_X9_tiedTo_6 {p : Nat} : ∀ (n : Nat) (v2 : Int32) (v3 : Int32) (I : IH) (w : Int32 × IH), g_X9_tiedTo_6 n v2 v3 I = some w → TT none mt_X9_tiedTo 6 [(0, .ref 55), (2, .int v2), (3, .int v3)] [] (83, I, R0 p) (some (.int w.1)) (83, w.2, R0 p) := by
  intro n
  induction n with
  | zero => intro v2 v3 I w hg; cases hg
  | succ n ih =>
    intro v2 v3 I w hg
    unfold g_X9_tiedTo_6 at hg
    refine TT_go 2 (pc' := 9) (lv' := [(0, .ref 55), (2, .int v2), (3, .int v3)]) (st' := [.int 8, .int v3]) (h2 := (83, I, R0 p)) (by rfl) ?_
    by_cases hc2 : 8 ≤ v3
    · rw [if_pos hc2] at hg
      refine TT_ige_t (t := 74) rfl rfl hc2 ?_
      refine TT_go 1 (pc' := 75) (lv' := [(0, .ref 55), (2, .int v2), (3, .int v3)]) (st' := [.int v2]) (h2 := (83, I, R0 p)) (by rfl) ?_
      have hg := Option.some.inj hg
      subst hg
      exact TT_ret rfl rfl
    · rw [if_neg hc2] at hg
      refine TT_ige_f (t := 74) rfl rfl hc2 ?_
      refine TT_go 2 (pc' := 15) (lv' := [(4, .int 0), (0, .ref 55), (2, .int v2), (3, .int v3)]) (st' := []) (h2 := (83, I, R0 p)) (by rfl) ?_
      refine TT_sub (lv2 := [(0, .ref 55), (2, .int v2), (3, .int v3), (4, .int 0)]) rfl rfl ⟨rfl, rfl, rfl, rfl, trivial⟩ ?_
      exact t_X9_tiedTo_15 ih n v2 v3 0 _ _ hg
def g_X9_tiedTo (n : Nat) (a0 : Int32) (I : IH) : Option (Int32 × IH) :=
  bnd ((1 <<< (a0 &&& 31))) fun x1 =>
  g_X9_tiedTo_6 n x1 0 I
set_option maxRecDepth 20000 in
theorem t_X9_tiedTo {p : Nat} {n : Nat} {a0 : Int32} {I : IH} {w : Int32 × IH} (hg : g_X9_tiedTo n a0 I = some w) : TT none mt_X9_tiedTo 0 (lv_args 0 [.ref 55, .int a0]) [] (83, I, R0 p) (some (.int w.1)) (83, w.2, R0 p) := by
  unfold g_X9_tiedTo at hg
  obtain ⟨x1, hx1⟩ : ∃ x : Int32, x = ((1 <<< (a0 &&& 31))) := ⟨_, rfl⟩
  replace hg := bnd_use hx1 hg
  refine TT_go 4 (pc' := 4) (lv' := [(2, .int x1), (0, .ref 55), (1, .int a0)]) (st' := []) (h2 := (83, I, R0 p)) (by subst hx1; rfl) ?_
  refine TT_go 2 (pc' := 6) (lv' := [(3, .int 0), (2, .int x1), (0, .ref 55), (1, .int a0)]) (st' := []) (h2 := (83, I, R0 p)) (by rfl) ?_
  refine TT_sub (lv2 := [(0, .ref 55), (2, .int x1), (3, .int 0)]) rfl rfl ⟨rfl, rfl, rfl, trivial⟩ ?_
  exact t_X9_tiedTo_6 n x1 0 _ _ hg
def g_X9_turnOf_61 (n : Nat) (k12 : Int32 → Int32 → Int32 → Int32 → IH → Option (Int32 × IH)) (v1 : Int32) (v3 : Int32) (v4 : Int32) (v5 : Int32) (I : IH) : Option (Int32 × IH) :=
  bnd (v5 + 1) fun x12 =>
  k12 v1 v3 v4 x12 I
set_option maxRecDepth 20000 in
theorem t_X9_turnOf_61 {p : Nat} {n : Nat} {k12 : Int32 → Int32 → Int32 → Int32 → IH → Option (Int32 × IH)} (hk12 : ∀ (v1 : Int32) (v3 : Int32) (v4 : Int32) (v5 : Int32) (I : IH) (w : Int32 × IH), k12 v1 v3 v4 v5 I = some w → TT none mt_X9_turnOf 12 [(0, .ref 55), (1, .int v1), (3, .int v3), (4, .int v4), (5, .int v5)] [] (83, I, R0 p) (some (.int w.1)) (83, w.2, R0 p)) {v1 : Int32} {v3 : Int32} {v4 : Int32} {v5 : Int32} {I : IH} {w : Int32 × IH} (hg : g_X9_turnOf_61 n k12 v1 v3 v4 v5 I = some w) : TT none mt_X9_turnOf 61 [(0, .ref 55), (1, .int v1), (3, .int v3), (4, .int v4), (5, .int v5)] [] (83, I, R0 p) (some (.int w.1)) (83, w.2, R0 p) := by
  unfold g_X9_turnOf_61 at hg
  obtain ⟨x12, hx12⟩ : ∃ x : Int32, x = (v5 + 1) := ⟨_, rfl⟩
  replace hg := bnd_use hx12 hg
  refine TT_go 1 (pc' := 64) (lv' := [(5, .int x12), (0, .ref 55), (1, .int v1), (3, .int v3), (4, .int v4)]) (st' := []) (h2 := (83, I, R0 p)) (by subst hx12; rfl) ?_
  refine TT_go 1 (pc' := 12) (lv' := [(5, .int x12), (0, .ref 55), (1, .int v1), (3, .int v3), (4, .int v4)]) (st' := []) (h2 := (83, I, R0 p)) (by rfl) ?_
  refine TT_sub (lv2 := [(0, .ref 55), (1, .int v1), (3, .int v3), (4, .int v4), (5, .int x12)]) rfl rfl ⟨rfl, rfl, rfl, rfl, rfl, trivial⟩ ?_
  exact hk12 v1 v3 v4 x12 _ _ hg
def g_X9_turnOf_12 : Nat → Int32 → Int32 → Int32 → Int32 → IH → Option (Int32 × IH)
  | 0, _, _, _, _, _ => none
  | n + 1, v1, v3, v4, v5, I =>
    bnd (I 57 0) fun x5 =>
    if x5 ≤ v5 then
      some (v4, I)
    else
      match g_X9_has1 n v3 v5 I with
      | none => none
      | some (r10, J9) =>
        if r10 = 0 then
          g_X9_turnOf_61 n (g_X9_turnOf_12 n) v1 v3 v4 v5 J9
        else
          if inB ((8 * v1) + v5) 32 = true then
            bnd (J9 75 (Int32.toNatClampNeg ((8 * v1) + v5))) fun x14 =>
            if inB ((8 * v1) + v5) 32 = true then
              bnd (up2 J9 75 (Int32.toNatClampNeg ((8 * v1) + v5)) (1 - x14)) fun J16 =>
              bnd (v4 + 1) fun x17 =>
              g_X9_turnOf_61 n (g_X9_turnOf_12 n) v1 v3 x17 v5 J16
            else none
          else none
set_option maxRecDepth 20000 in
theorem t_X9_turnOf_12 {p : Nat} : ∀ (n : Nat) (v1 : Int32) (v3 : Int32) (v4 : Int32) (v5 : Int32) (I : IH) (w : Int32 × IH), g_X9_turnOf_12 n v1 v3 v4 v5 I = some w → TT none mt_X9_turnOf 12 [(0, .ref 55), (1, .int v1), (3, .int v3), (4, .int v4), (5, .int v5)] [] (83, I, R0 p) (some (.int w.1)) (83, w.2, R0 p) := by
  intro n
  induction n with
  | zero => intro v1 v3 v4 v5 I w hg; cases hg
  | succ n ih =>
    intro v1 v3 v4 v5 I w hg
    unfold g_X9_turnOf_12 at hg
    obtain ⟨x5, hx5⟩ : ∃ x : Int32, x = (I 57 0) := ⟨_, rfl⟩
    replace hg := bnd_use hx5 hg
    refine TT_go 5 (pc' := 20) (lv' := [(0, .ref 55), (1, .int v1), (3, .int v3), (4, .int v4), (5, .int v5)]) (st' := [.int x5, .int v5]) (h2 := (83, I, R0 p)) (by subst hx5; rfl) ?_
    by_cases hc6 : x5 ≤ v5
    · rw [if_pos hc6] at hg
      refine TT_ige_t (t := 67) rfl rfl hc6 ?_
      refine TT_go 1 (pc' := 69) (lv' := [(0, .ref 55), (1, .int v1), (3, .int v3), (4, .int v4), (5, .int v5)]) (st' := [.int v4]) (h2 := (83, I, R0 p)) (by rfl) ?_
      have hg := Option.some.inj hg
      subst hg
      exact TT_ret rfl rfl
    · rw [if_neg hc6] at hg
      refine TT_ige_f (t := 67) rfl rfl hc6 ?_
      refine TT_go 2 (pc' := 26) (lv' := [(0, .ref 55), (1, .int v1), (3, .int v3), (4, .int v4), (5, .int v5)]) (st' := [.int v5, .int v3]) (h2 := (83, I, R0 p)) (by rfl) ?_
      cases hq7 : g_X9_has1 n v3 v5 I with
      | none => rw [hq7] at hg; cases hg
      | some w8 =>
        obtain ⟨r10, J9⟩ := w8
        rw [hq7] at hg
        dsimp only at hg
        refine TT_call (me' := mt_X9_has1) (as := [.int v3, .int v5]) (rest := []) (r1 := some (.int r10)) (h1 := (83, J9, R0 p)) rfl rfl (by rfl) (t_X9_has1 hq7) ?_
        refine TT_go 0 (pc' := 29) (lv' := [(0, .ref 55), (1, .int v1), (3, .int v3), (4, .int v4), (5, .int v5)]) (st' := [.int r10]) (h2 := (83, J9, R0 p)) (by rfl) ?_
        by_cases hc11 : r10 = 0
        · rw [if_pos hc11] at hg
          refine TT_zeq_t (t := 61) rfl rfl hc11 ?_
          refine TT_go 0 (pc' := 61) (lv' := [(0, .ref 55), (1, .int v1), (3, .int v3), (4, .int v4), (5, .int v5)]) (st' := []) (h2 := (83, J9, R0 p)) (by rfl) ?_
          refine TT_sub (lv2 := [(0, .ref 55), (1, .int v1), (3, .int v3), (4, .int v4), (5, .int v5)]) rfl rfl ⟨rfl, rfl, rfl, rfl, rfl, trivial⟩ ?_
          exact t_X9_turnOf_61 ih hg
        · rw [if_neg hc11] at hg
          refine TT_zeq_f (t := 61) rfl rfl hc11 ?_
          refine TT_go 15 (pc' := 55) (lv' := [(0, .ref 55), (1, .int v1), (3, .int v3), (4, .int v4), (5, .int v5)]) (st' := [.int ((8 * v1) + v5), .ref 75, .int 1, .int ((8 * v1) + v5), .ref 75]) (h2 := (83, J9, R0 p)) (by rfl) ?_
          by_cases hb13 : inB ((8 * v1) + v5) 32 = true
          rotate_left
          · rw [if_neg hb13] at hg; cases hg
          rw [if_pos hb13] at hg
          refine TT_iald (n := 32) rfl (by rfl) hb13 ?_
          obtain ⟨x14, hx14⟩ : ∃ x : Int32, x = (J9 75 (Int32.toNatClampNeg ((8 * v1) + v5))) := ⟨_, rfl⟩
          replace hg := bnd_use hx14 hg
          refine TT_go 0 (pc' := 56) (lv' := [(0, .ref 55), (1, .int v1), (3, .int v3), (4, .int v4), (5, .int v5)]) (st' := [.int x14, .int 1, .int ((8 * v1) + v5), .ref 75]) (h2 := (83, J9, R0 p)) (by subst hx14; rfl) ?_
          refine TT_go 1 (pc' := 57) (lv' := [(0, .ref 55), (1, .int v1), (3, .int v3), (4, .int v4), (5, .int v5)]) (st' := [.int (1 - x14), .int ((8 * v1) + v5), .ref 75]) (h2 := (83, J9, R0 p)) (by rfl) ?_
          by_cases hb15 : inB ((8 * v1) + v5) 32 = true
          rotate_left
          · rw [if_neg hb15] at hg; cases hg
          rw [if_pos hb15] at hg
          refine TT_iast (n := 32) rfl (by rfl) hb15 ?_
          obtain ⟨J16, hJ16⟩ : ∃ x : IH, x = (up2 J9 75 (Int32.toNatClampNeg ((8 * v1) + v5)) (1 - x14)) := ⟨_, rfl⟩
          replace hg := bnd_use hJ16 hg
          refine TT_go 0 (pc' := 58) (lv' := [(0, .ref 55), (1, .int v1), (3, .int v3), (4, .int v4), (5, .int v5)]) (st' := []) (h2 := (83, J16, R0 p)) (by subst hJ16; rfl) ?_
          obtain ⟨x17, hx17⟩ : ∃ x : Int32, x = (v4 + 1) := ⟨_, rfl⟩
          replace hg := bnd_use hx17 hg
          refine TT_go 1 (pc' := 61) (lv' := [(4, .int x17), (0, .ref 55), (1, .int v1), (3, .int v3), (5, .int v5)]) (st' := []) (h2 := (83, J16, R0 p)) (by subst hx17; rfl) ?_
          refine TT_sub (lv2 := [(0, .ref 55), (1, .int v1), (3, .int v3), (4, .int x17), (5, .int v5)]) rfl rfl ⟨rfl, rfl, rfl, rfl, rfl, trivial⟩ ?_
          exact t_X9_turnOf_61 ih hg
def g_X9_turnOf (n : Nat) (a0 : Int32) (a1 : Int32) (I : IH) : Option (Int32 × IH) :=
  match g_X9_tiedTo n a1 I with
  | none => none
  | some (r4, J3) =>
    g_X9_turnOf_12 n a0 r4 0 0 J3
set_option maxRecDepth 20000 in
theorem t_X9_turnOf {p : Nat} {n : Nat} {a0 : Int32} {a1 : Int32} {I : IH} {w : Int32 × IH} (hg : g_X9_turnOf n a0 a1 I = some w) : TT none mt_X9_turnOf 0 (lv_args 0 [.ref 55, .int a0, .int a1]) [] (83, I, R0 p) (some (.int w.1)) (83, w.2, R0 p) := by
  unfold g_X9_turnOf at hg
  refine TT_go 2 (pc' := 2) (lv' := [(0, .ref 55), (1, .int a0), (2, .int a1)]) (st' := [.int a1, .ref 55]) (h2 := (83, I, R0 p)) (by rfl) ?_
  cases hq1 : g_X9_tiedTo n a1 I with
  | none => rw [hq1] at hg; cases hg
  | some w2 =>
    obtain ⟨r4, J3⟩ := w2
    rw [hq1] at hg
    dsimp only at hg
    refine TT_call (me' := mt_X9_tiedTo) (as := [.ref 55, .int a1]) (rest := []) (r1 := some (.int r4)) (h1 := (83, J3, R0 p)) rfl rfl (by rfl) (t_X9_tiedTo hq1) ?_
    refine TT_go 5 (pc' := 12) (lv' := [(5, .int 0), (4, .int 0), (3, .int r4), (0, .ref 55), (1, .int a0), (2, .int a1)]) (st' := []) (h2 := (83, J3, R0 p)) (by rfl) ?_
    refine TT_sub (lv2 := [(0, .ref 55), (1, .int a0), (3, .int r4), (4, .int 0), (5, .int 0)]) rfl rfl ⟨rfl, rfl, rfl, rfl, rfl, trivial⟩ ?_
    exact t_X9_turnOf_12 n a0 r4 0 0 _ _ hg
def g_X9_clerks_70 (n : Nat) (k2 : Int32 → Int32 → IH → Option (IH)) (v1 : Int32) (v2 : Int32) (I : IH) : Option (IH) :=
  bnd (v2 + 1) fun x10 =>
  k2 v1 x10 I
set_option maxRecDepth 20000 in
theorem t_X9_clerks_70 {p : Nat} {n : Nat} {k2 : Int32 → Int32 → IH → Option (IH)} (hk2 : ∀ (v1 : Int32) (v2 : Int32) (I : IH) (w : IH), k2 v1 v2 I = some w → TT none mt_X9_clerks 2 [(0, .ref 55), (1, .int v1), (2, .int v2)] [] (83, I, R0 p) none (83, w, R0 p)) {v1 : Int32} {v2 : Int32} {I : IH} {w : IH} (hg : g_X9_clerks_70 n k2 v1 v2 I = some w) : TT none mt_X9_clerks 70 [(0, .ref 55), (1, .int v1), (2, .int v2)] [] (83, I, R0 p) none (83, w, R0 p) := by
  unfold g_X9_clerks_70 at hg
  obtain ⟨x10, hx10⟩ : ∃ x : Int32, x = (v2 + 1) := ⟨_, rfl⟩
  replace hg := bnd_use hx10 hg
  refine TT_go 1 (pc' := 73) (lv' := [(2, .int x10), (0, .ref 55), (1, .int v1)]) (st' := []) (h2 := (83, I, R0 p)) (by subst hx10; rfl) ?_
  refine TT_go 1 (pc' := 2) (lv' := [(2, .int x10), (0, .ref 55), (1, .int v1)]) (st' := []) (h2 := (83, I, R0 p)) (by rfl) ?_
  refine TT_sub (lv2 := [(0, .ref 55), (1, .int v1), (2, .int x10)]) rfl rfl ⟨rfl, rfl, rfl, trivial⟩ ?_
  exact hk2 v1 x10 _ _ hg
def g_X9_clerks_41 (n : Nat) (k2 : Int32 → Int32 → IH → Option (IH)) (v1 : Int32) (v2 : Int32) (t0 : Int32) (t1 : Int32) (I : IH) : Option (IH) :=
  bnd ((t1 - t0)) fun x8 =>
  if x8 < 0 then
    g_X9_clerks_70 n k2 v1 v2 I
  else
    if inB v2 16 = true then
      bnd (I 70 (Int32.toNatClampNeg v2)) fun x12 =>
      if x12 = 0 then none else
      if (x8 - x8 / x12 * x12) = 0 then
        if inB v2 16 = true then
          bnd (I 69 (Int32.toNatClampNeg v2)) fun x16 =>
          match g_X9_turnOf n v1 x16 I with
          | none => none
          | some (r20, J19) =>
            g_X9_clerks_70 n k2 v1 v2 J19
        else none
      else
        g_X9_clerks_70 n k2 v1 v2 I
    else none
set_option maxRecDepth 20000 in
theorem t_X9_clerks_41 {p : Nat} {n : Nat} {k2 : Int32 → Int32 → IH → Option (IH)} (hk2 : ∀ (v1 : Int32) (v2 : Int32) (I : IH) (w : IH), k2 v1 v2 I = some w → TT none mt_X9_clerks 2 [(0, .ref 55), (1, .int v1), (2, .int v2)] [] (83, I, R0 p) none (83, w, R0 p)) {v1 : Int32} {v2 : Int32} {t0 : Int32} {t1 : Int32} {I : IH} {w : IH} (hg : g_X9_clerks_41 n k2 v1 v2 t0 t1 I = some w) : TT none mt_X9_clerks 41 [(0, .ref 55), (1, .int v1), (2, .int v2)] [.int t0, .int t1] (83, I, R0 p) none (83, w, R0 p) := by
  unfold g_X9_clerks_41 at hg
  obtain ⟨x8, hx8⟩ : ∃ x : Int32, x = ((t1 - t0)) := ⟨_, rfl⟩
  replace hg := bnd_use hx8 hg
  refine TT_go 2 (pc' := 43) (lv' := [(3, .int x8), (0, .ref 55), (1, .int v1), (2, .int v2)]) (st' := []) (h2 := (83, I, R0 p)) (by subst hx8; rfl) ?_
  refine TT_go 1 (pc' := 44) (lv' := [(3, .int x8), (0, .ref 55), (1, .int v1), (2, .int v2)]) (st' := [.int x8]) (h2 := (83, I, R0 p)) (by rfl) ?_
  by_cases hc9 : x8 < 0
  · rw [if_pos hc9] at hg
    refine TT_zlt_t (t := 70) rfl rfl hc9 ?_
    refine TT_go 0 (pc' := 70) (lv' := [(3, .int x8), (0, .ref 55), (1, .int v1), (2, .int v2)]) (st' := []) (h2 := (83, I, R0 p)) (by rfl) ?_
    refine TT_sub (lv2 := [(0, .ref 55), (1, .int v1), (2, .int v2)]) rfl rfl ⟨rfl, rfl, rfl, trivial⟩ ?_
    exact t_X9_clerks_70 hk2 hg
  · rw [if_neg hc9] at hg
    refine TT_zlt_f (t := 70) rfl rfl hc9 ?_
    refine TT_go 4 (pc' := 53) (lv' := [(3, .int x8), (0, .ref 55), (1, .int v1), (2, .int v2)]) (st' := [.int v2, .ref 70, .int x8]) (h2 := (83, I, R0 p)) (by rfl) ?_
    by_cases hb11 : inB v2 16 = true
    rotate_left
    · rw [if_neg hb11] at hg; cases hg
    rw [if_pos hb11] at hg
    refine TT_iald (n := 16) rfl (by rfl) hb11 ?_
    obtain ⟨x12, hx12⟩ : ∃ x : Int32, x = (I 70 (Int32.toNatClampNeg v2)) := ⟨_, rfl⟩
    replace hg := bnd_use hx12 hg
    refine TT_go 0 (pc' := 54) (lv' := [(3, .int x8), (0, .ref 55), (1, .int v1), (2, .int v2)]) (st' := [.int x12, .int x8]) (h2 := (83, I, R0 p)) (by subst hx12; rfl) ?_
    by_cases hc13 : x12 = 0
    · rw [if_pos hc13] at hg; cases hg
    rw [if_neg hc13] at hg
    refine TT_irem rfl hc13 ?_
    refine TT_go 0 (pc' := 55) (lv' := [(3, .int x8), (0, .ref 55), (1, .int v1), (2, .int v2)]) (st' := [.int (x8 - x8 / x12 * x12)]) (h2 := (83, I, R0 p)) (by rfl) ?_
    by_cases hc14 : (x8 - x8 / x12 * x12) = 0
    · rw [if_pos hc14] at hg
      refine TT_zne_f (t := 70) rfl rfl hc14 ?_
      refine TT_go 5 (pc' := 65) (lv' := [(3, .int x8), (0, .ref 55), (1, .int v1), (2, .int v2)]) (st' := [.int v2, .ref 69, .int v1, .ref 55]) (h2 := (83, I, R0 p)) (by rfl) ?_
      by_cases hb15 : inB v2 16 = true
      rotate_left
      · rw [if_neg hb15] at hg; cases hg
      rw [if_pos hb15] at hg
      refine TT_iald (n := 16) rfl (by rfl) hb15 ?_
      obtain ⟨x16, hx16⟩ : ∃ x : Int32, x = (I 69 (Int32.toNatClampNeg v2)) := ⟨_, rfl⟩
      replace hg := bnd_use hx16 hg
      refine TT_go 0 (pc' := 66) (lv' := [(3, .int x8), (0, .ref 55), (1, .int v1), (2, .int v2)]) (st' := [.int x16, .int v1, .ref 55]) (h2 := (83, I, R0 p)) (by subst hx16; rfl) ?_
      cases hq17 : g_X9_turnOf n v1 x16 I with
      | none => rw [hq17] at hg; cases hg
      | some w18 =>
        obtain ⟨r20, J19⟩ := w18
        rw [hq17] at hg
        dsimp only at hg
        refine TT_call (me' := mt_X9_turnOf) (as := [.ref 55, .int v1, .int x16]) (rest := []) (r1 := some (.int r20)) (h1 := (83, J19, R0 p)) rfl rfl (by rfl) (t_X9_turnOf hq17) ?_
        refine TT_go 1 (pc' := 70) (lv' := [(3, .int x8), (0, .ref 55), (1, .int v1), (2, .int v2)]) (st' := []) (h2 := (83, J19, R0 p)) (by rfl) ?_
        refine TT_sub (lv2 := [(0, .ref 55), (1, .int v1), (2, .int v2)]) rfl rfl ⟨rfl, rfl, rfl, trivial⟩ ?_
        exact t_X9_clerks_70 hk2 hg
    · rw [if_neg hc14] at hg
      refine TT_zne_t (t := 70) rfl rfl hc14 ?_
      refine TT_go 0 (pc' := 70) (lv' := [(3, .int x8), (0, .ref 55), (1, .int v1), (2, .int v2)]) (st' := []) (h2 := (83, I, R0 p)) (by rfl) ?_
      refine TT_sub (lv2 := [(0, .ref 55), (1, .int v1), (2, .int v2)]) rfl rfl ⟨rfl, rfl, rfl, trivial⟩ ?_
      exact t_X9_clerks_70 hk2 hg
def g_X9_clerks_2 : Nat → Int32 → Int32 → IH → Option (IH)
  | 0, _, _, _ => none
  | n + 1, v1, v2, I =>
    bnd (I 68 0) fun x1 =>
    if x1 ≤ v2 then
      some I
    else
      if inB v1 4 = true then
        bnd (I 76 (Int32.toNatClampNeg v1)) fun x4 =>
        if inB v2 16 = true then
          bnd (I 71 (Int32.toNatClampNeg v2)) fun x6 =>
          if v2 = (I 55 29) then
            g_X9_clerks_41 n (g_X9_clerks_2 n) v1 v2 ((I 55 30)) ((x4 - x6)) I
          else
            g_X9_clerks_41 n (g_X9_clerks_2 n) v1 v2 0 ((x4 - x6)) I
        else none
      else none
set_option maxRecDepth 20000 in
theorem t_X9_clerks_2 {p : Nat} : ∀ (n : Nat) (v1 : Int32) (v2 : Int32) (I : IH) (w : IH), g_X9_clerks_2 n v1 v2 I = some w → TT none mt_X9_clerks 2 [(0, .ref 55), (1, .int v1), (2, .int v2)] [] (83, I, R0 p) none (83, w, R0 p) := by
  intro n
  induction n with
  | zero => intro v1 v2 I w hg; cases hg
  | succ n ih =>
    intro v1 v2 I w hg
    unfold g_X9_clerks_2 at hg
    obtain ⟨x1, hx1⟩ : ∃ x : Int32, x = (I 68 0) := ⟨_, rfl⟩
    replace hg := bnd_use hx1 hg
    refine TT_go 5 (pc' := 9) (lv' := [(0, .ref 55), (1, .int v1), (2, .int v2)]) (st' := [.int x1, .int v2]) (h2 := (83, I, R0 p)) (by subst hx1; rfl) ?_
    by_cases hc2 : x1 ≤ v2
    · rw [if_pos hc2] at hg
      refine TT_ige_t (t := 76) rfl rfl hc2 ?_
      refine TT_go 0 (pc' := 76) (lv' := [(0, .ref 55), (1, .int v1), (2, .int v2)]) (st' := []) (h2 := (83, I, R0 p)) (by rfl) ?_
      have hg := Option.some.inj hg
      subst hg
      exact TT_ret rfl rfl
    · rw [if_neg hc2] at hg
      refine TT_ige_f (t := 76) rfl rfl hc2 ?_
      refine TT_go 3 (pc' := 17) (lv' := [(0, .ref 55), (1, .int v1), (2, .int v2)]) (st' := [.int v1, .ref 76]) (h2 := (83, I, R0 p)) (by rfl) ?_
      by_cases hb3 : inB v1 4 = true
      rotate_left
      · rw [if_neg hb3] at hg; cases hg
      rw [if_pos hb3] at hg
      refine TT_iald (n := 4) rfl (by rfl) hb3 ?_
      obtain ⟨x4, hx4⟩ : ∃ x : Int32, x = (I 76 (Int32.toNatClampNeg v1)) := ⟨_, rfl⟩
      replace hg := bnd_use hx4 hg
      refine TT_go 0 (pc' := 18) (lv' := [(0, .ref 55), (1, .int v1), (2, .int v2)]) (st' := [.int x4]) (h2 := (83, I, R0 p)) (by subst hx4; rfl) ?_
      refine TT_go 3 (pc' := 23) (lv' := [(0, .ref 55), (1, .int v1), (2, .int v2)]) (st' := [.int v2, .ref 71, .int x4]) (h2 := (83, I, R0 p)) (by rfl) ?_
      by_cases hb5 : inB v2 16 = true
      rotate_left
      · rw [if_neg hb5] at hg; cases hg
      rw [if_pos hb5] at hg
      refine TT_iald (n := 16) rfl (by rfl) hb5 ?_
      obtain ⟨x6, hx6⟩ : ∃ x : Int32, x = (I 71 (Int32.toNatClampNeg v2)) := ⟨_, rfl⟩
      replace hg := bnd_use hx6 hg
      refine TT_go 0 (pc' := 24) (lv' := [(0, .ref 55), (1, .int v1), (2, .int v2)]) (st' := [.int x6, .int x4]) (h2 := (83, I, R0 p)) (by subst hx6; rfl) ?_
      refine TT_go 4 (pc' := 30) (lv' := [(0, .ref 55), (1, .int v1), (2, .int v2)]) (st' := [.int (I 55 29), .int v2, .int (x4 - x6)]) (h2 := (83, I, R0 p)) (by rfl) ?_
      by_cases hc7 : v2 = (I 55 29)
      · rw [if_pos hc7] at hg
        refine TT_ine_f (t := 40) rfl rfl hc7 ?_
        refine TT_go 3 (pc' := 41) (lv' := [(0, .ref 55), (1, .int v1), (2, .int v2)]) (st' := [.int (I 55 30), .int (x4 - x6)]) (h2 := (83, I, R0 p)) (by rfl) ?_
        refine TT_sub (lv2 := [(0, .ref 55), (1, .int v1), (2, .int v2)]) rfl rfl ⟨rfl, rfl, rfl, trivial⟩ ?_
        exact t_X9_clerks_41 ih hg
      · rw [if_neg hc7] at hg
        refine TT_ine_t (t := 40) rfl rfl hc7 ?_
        refine TT_go 1 (pc' := 41) (lv' := [(0, .ref 55), (1, .int v1), (2, .int v2)]) (st' := [.int 0, .int (x4 - x6)]) (h2 := (83, I, R0 p)) (by rfl) ?_
        refine TT_sub (lv2 := [(0, .ref 55), (1, .int v1), (2, .int v2)]) rfl rfl ⟨rfl, rfl, rfl, trivial⟩ ?_
        exact t_X9_clerks_41 ih hg
def g_X9_clerks (n : Nat) (a0 : Int32) (I : IH) : Option (IH) :=
  g_X9_clerks_2 n a0 0 I
set_option maxRecDepth 20000 in
theorem t_X9_clerks {p : Nat} {n : Nat} {a0 : Int32} {I : IH} {w : IH} (hg : g_X9_clerks n a0 I = some w) : TT none mt_X9_clerks 0 (lv_args 0 [.ref 55, .int a0]) [] (83, I, R0 p) none (83, w, R0 p) := by
  unfold g_X9_clerks at hg
  refine TT_go 2 (pc' := 2) (lv' := [(2, .int 0), (0, .ref 55), (1, .int a0)]) (st' := []) (h2 := (83, I, R0 p)) (by rfl) ?_
  refine TT_sub (lv2 := [(0, .ref 55), (1, .int a0), (2, .int 0)]) rfl rfl ⟨rfl, rfl, rfl, trivial⟩ ?_
  exact t_X9_clerks_2 n a0 0 _ _ hg
def g_X9_upper (n : Nat) (a0 : Int32) (a1 : Int32) (I : IH) : Option (Int32 × IH) :=
  if inB ((8 * a0) + a1) 32 = true then
    bnd (I 75 (Int32.toNatClampNeg ((8 * a0) + a1))) fun x2 =>
    some ((((16 * a0) + (2 * a1)) + x2), I)
  else none
set_option maxRecDepth 20000 in
theorem t_X9_upper {p : Nat} {n : Nat} {a0 : Int32} {a1 : Int32} {I : IH} {w : Int32 × IH} (hg : g_X9_upper n a0 a1 I = some w) : TT none mt_X9_upper 0 (lv_args 0 [.ref 55, .int a0, .int a1]) [] (83, I, R0 p) (some (.int w.1)) (83, w.2, R0 p) := by
  unfold g_X9_upper at hg
  refine TT_go 14 (pc' := 18) (lv' := [(0, .ref 55), (1, .int a0), (2, .int a1)]) (st' := [.int ((8 * a0) + a1), .ref 75, .int ((16 * a0) + (2 * a1))]) (h2 := (83, I, R0 p)) (by rfl) ?_
  by_cases hb1 : inB ((8 * a0) + a1) 32 = true
  rotate_left
  · rw [if_neg hb1] at hg; cases hg
  rw [if_pos hb1] at hg
  refine TT_iald (n := 32) rfl (by rfl) hb1 ?_
  obtain ⟨x2, hx2⟩ : ∃ x : Int32, x = (I 75 (Int32.toNatClampNeg ((8 * a0) + a1))) := ⟨_, rfl⟩
  replace hg := bnd_use hx2 hg
  refine TT_go 0 (pc' := 19) (lv' := [(0, .ref 55), (1, .int a0), (2, .int a1)]) (st' := [.int x2, .int ((16 * a0) + (2 * a1))]) (h2 := (83, I, R0 p)) (by subst hx2; rfl) ?_
  refine TT_go 1 (pc' := 20) (lv' := [(0, .ref 55), (1, .int a0), (2, .int a1)]) (st' := [.int (((16 * a0) + (2 * a1)) + x2)]) (h2 := (83, I, R0 p)) (by rfl) ?_
  have hg := Option.some.inj hg
  subst hg
  exact TT_ret rfl rfl
def g_X9_lower (n : Nat) (a0 : Int32) (a1 : Int32) (I : IH) : Option (Int32 × IH) :=
  if inB ((8 * a0) + a1) 32 = true then
    bnd (I 75 (Int32.toNatClampNeg ((8 * a0) + a1))) fun x2 =>
    some (((((16 * a0) + (2 * a1)) + 1) - x2), I)
  else none
set_option maxRecDepth 20000 in
theorem t_X9_lower {p : Nat} {n : Nat} {a0 : Int32} {a1 : Int32} {I : IH} {w : Int32 × IH} (hg : g_X9_lower n a0 a1 I = some w) : TT none mt_X9_lower 0 (lv_args 0 [.ref 55, .int a0, .int a1]) [] (83, I, R0 p) (some (.int w.1)) (83, w.2, R0 p) := by
  unfold g_X9_lower at hg
  refine TT_go 16 (pc' := 20) (lv' := [(0, .ref 55), (1, .int a0), (2, .int a1)]) (st' := [.int ((8 * a0) + a1), .ref 75, .int (((16 * a0) + (2 * a1)) + 1)]) (h2 := (83, I, R0 p)) (by rfl) ?_
  by_cases hb1 : inB ((8 * a0) + a1) 32 = true
  rotate_left
  · rw [if_neg hb1] at hg; cases hg
  rw [if_pos hb1] at hg
  refine TT_iald (n := 32) rfl (by rfl) hb1 ?_
  obtain ⟨x2, hx2⟩ : ∃ x : Int32, x = (I 75 (Int32.toNatClampNeg ((8 * a0) + a1))) := ⟨_, rfl⟩
  replace hg := bnd_use hx2 hg
  refine TT_go 0 (pc' := 21) (lv' := [(0, .ref 55), (1, .int a0), (2, .int a1)]) (st' := [.int x2, .int (((16 * a0) + (2 * a1)) + 1)]) (h2 := (83, I, R0 p)) (by subst hx2; rfl) ?_
  refine TT_go 1 (pc' := 22) (lv' := [(0, .ref 55), (1, .int a0), (2, .int a1)]) (st' := [.int ((((16 * a0) + (2 * a1)) + 1) - x2)]) (h2 := (83, I, R0 p)) (by rfl) ?_
  have hg := Option.some.inj hg
  subst hg
  exact TT_ret rfl rfl
def g_X9_standing_34 (n : Nat) (k4 : Int32 → Int32 → Int32 → IH → Option (Int32 × IH)) (v1 : Int32) (v3 : Int32) (t0 : Int32) (t1 : Int32) (I : IH) : Option (Int32 × IH) :=
  bnd ((t1 + t0)) fun x10 =>
  bnd (v3 + 1) fun x11 =>
  k4 v1 x10 x11 I
set_option maxRecDepth 20000 in
theorem t_X9_standing_34 {p : Nat} {n : Nat} {k4 : Int32 → Int32 → Int32 → IH → Option (Int32 × IH)} (hk4 : ∀ (v1 : Int32) (v2 : Int32) (v3 : Int32) (I : IH) (w : Int32 × IH), k4 v1 v2 v3 I = some w → TT none mt_X9_standing 4 [(0, .ref 55), (1, .int v1), (2, .int v2), (3, .int v3)] [] (83, I, R0 p) (some (.int w.1)) (83, w.2, R0 p)) {v1 : Int32} {v3 : Int32} {t0 : Int32} {t1 : Int32} {I : IH} {w : Int32 × IH} (hg : g_X9_standing_34 n k4 v1 v3 t0 t1 I = some w) : TT none mt_X9_standing 34 [(0, .ref 55), (1, .int v1), (3, .int v3)] [.int t0, .int t1] (83, I, R0 p) (some (.int w.1)) (83, w.2, R0 p) := by
  unfold g_X9_standing_34 at hg
  obtain ⟨x10, hx10⟩ : ∃ x : Int32, x = ((t1 + t0)) := ⟨_, rfl⟩
  replace hg := bnd_use hx10 hg
  refine TT_go 2 (pc' := 36) (lv' := [(2, .int x10), (0, .ref 55), (1, .int v1), (3, .int v3)]) (st' := []) (h2 := (83, I, R0 p)) (by subst hx10; rfl) ?_
  obtain ⟨x11, hx11⟩ : ∃ x : Int32, x = (v3 + 1) := ⟨_, rfl⟩
  replace hg := bnd_use hx11 hg
  refine TT_go 1 (pc' := 39) (lv' := [(3, .int x11), (2, .int x10), (0, .ref 55), (1, .int v1)]) (st' := []) (h2 := (83, I, R0 p)) (by subst hx11; rfl) ?_
  refine TT_go 1 (pc' := 4) (lv' := [(3, .int x11), (2, .int x10), (0, .ref 55), (1, .int v1)]) (st' := []) (h2 := (83, I, R0 p)) (by rfl) ?_
  refine TT_sub (lv2 := [(0, .ref 55), (1, .int v1), (2, .int x10), (3, .int x11)]) rfl rfl ⟨rfl, rfl, rfl, rfl, trivial⟩ ?_
  exact hk4 v1 x10 x11 _ _ hg
def g_X9_standing_4 : Nat → Int32 → Int32 → Int32 → IH → Option (Int32 × IH)
  | 0, _, _, _, _ => none
  | n + 1, v1, v2, v3, I =>
    bnd (I 57 0) fun x1 =>
    if x1 ≤ v3 then
      some (v2, I)
    else
      match g_X9_upper n v1 v3 I with
      | none => none
      | some (r6, J5) =>
        if inB r6 64 = true then
          bnd (J5 74 (Int32.toNatClampNeg r6)) fun x8 =>
          if x8 = 0 then
            g_X9_standing_34 n (g_X9_standing_4 n) v1 v3 1 v2 J5
          else
            g_X9_standing_34 n (g_X9_standing_4 n) v1 v3 0 v2 J5
        else none
set_option maxRecDepth 20000 in
theorem t_X9_standing_4 {p : Nat} : ∀ (n : Nat) (v1 : Int32) (v2 : Int32) (v3 : Int32) (I : IH) (w : Int32 × IH), g_X9_standing_4 n v1 v2 v3 I = some w → TT none mt_X9_standing 4 [(0, .ref 55), (1, .int v1), (2, .int v2), (3, .int v3)] [] (83, I, R0 p) (some (.int w.1)) (83, w.2, R0 p) := by
  intro n
  induction n with
  | zero => intro v1 v2 v3 I w hg; cases hg
  | succ n ih =>
    intro v1 v2 v3 I w hg
    unfold g_X9_standing_4 at hg
    obtain ⟨x1, hx1⟩ : ∃ x : Int32, x = (I 57 0) := ⟨_, rfl⟩
    replace hg := bnd_use hx1 hg
    refine TT_go 5 (pc' := 11) (lv' := [(0, .ref 55), (1, .int v1), (2, .int v2), (3, .int v3)]) (st' := [.int x1, .int v3]) (h2 := (83, I, R0 p)) (by subst hx1; rfl) ?_
    by_cases hc2 : x1 ≤ v3
    · rw [if_pos hc2] at hg
      refine TT_ige_t (t := 42) rfl rfl hc2 ?_
      refine TT_go 1 (pc' := 43) (lv' := [(0, .ref 55), (1, .int v1), (2, .int v2), (3, .int v3)]) (st' := [.int v2]) (h2 := (83, I, R0 p)) (by rfl) ?_
      have hg := Option.some.inj hg
      subst hg
      exact TT_ret rfl rfl
    · rw [if_neg hc2] at hg
      refine TT_ige_f (t := 42) rfl rfl hc2 ?_
      refine TT_go 6 (pc' := 22) (lv' := [(0, .ref 55), (1, .int v1), (2, .int v2), (3, .int v3)]) (st' := [.int v3, .int v1, .ref 55, .ref 74, .int v2]) (h2 := (83, I, R0 p)) (by rfl) ?_
      cases hq3 : g_X9_upper n v1 v3 I with
      | none => rw [hq3] at hg; cases hg
      | some w4 =>
        obtain ⟨r6, J5⟩ := w4
        rw [hq3] at hg
        dsimp only at hg
        refine TT_call (me' := mt_X9_upper) (as := [.ref 55, .int v1, .int v3]) (rest := [.ref 74, .int v2]) (r1 := some (.int r6)) (h1 := (83, J5, R0 p)) rfl rfl (by rfl) (t_X9_upper hq3) ?_
        refine TT_go 0 (pc' := 25) (lv' := [(0, .ref 55), (1, .int v1), (2, .int v2), (3, .int v3)]) (st' := [.int r6, .ref 74, .int v2]) (h2 := (83, J5, R0 p)) (by rfl) ?_
        by_cases hb7 : inB r6 64 = true
        rotate_left
        · rw [if_neg hb7] at hg; cases hg
        rw [if_pos hb7] at hg
        refine TT_iald (n := 64) rfl (by rfl) hb7 ?_
        obtain ⟨x8, hx8⟩ : ∃ x : Int32, x = (J5 74 (Int32.toNatClampNeg r6)) := ⟨_, rfl⟩
        replace hg := bnd_use hx8 hg
        refine TT_go 0 (pc' := 26) (lv' := [(0, .ref 55), (1, .int v1), (2, .int v2), (3, .int v3)]) (st' := [.int x8, .int v2]) (h2 := (83, J5, R0 p)) (by subst hx8; rfl) ?_
        by_cases hc9 : x8 = 0
        · rw [if_pos hc9] at hg
          refine TT_zne_f (t := 33) rfl rfl hc9 ?_
          refine TT_go 2 (pc' := 34) (lv' := [(0, .ref 55), (1, .int v1), (2, .int v2), (3, .int v3)]) (st' := [.int 1, .int v2]) (h2 := (83, J5, R0 p)) (by rfl) ?_
          refine TT_sub (lv2 := [(0, .ref 55), (1, .int v1), (3, .int v3)]) rfl rfl ⟨rfl, rfl, rfl, trivial⟩ ?_
          exact t_X9_standing_34 ih hg
        · rw [if_neg hc9] at hg
          refine TT_zne_t (t := 33) rfl rfl hc9 ?_
          refine TT_go 1 (pc' := 34) (lv' := [(0, .ref 55), (1, .int v1), (2, .int v2), (3, .int v3)]) (st' := [.int 0, .int v2]) (h2 := (83, J5, R0 p)) (by rfl) ?_
          refine TT_sub (lv2 := [(0, .ref 55), (1, .int v1), (3, .int v3)]) rfl rfl ⟨rfl, rfl, rfl, trivial⟩ ?_
          exact t_X9_standing_34 ih hg
def g_X9_standing (n : Nat) (a0 : Int32) (I : IH) : Option (Int32 × IH) :=
  g_X9_standing_4 n a0 0 0 I
set_option maxRecDepth 20000 in
theorem t_X9_standing {p : Nat} {n : Nat} {a0 : Int32} {I : IH} {w : Int32 × IH} (hg : g_X9_standing n a0 I = some w) : TT none mt_X9_standing 0 (lv_args 0 [.ref 55, .int a0]) [] (83, I, R0 p) (some (.int w.1)) (83, w.2, R0 p) := by
  unfold g_X9_standing at hg
  refine TT_go 4 (pc' := 4) (lv' := [(3, .int 0), (2, .int 0), (0, .ref 55), (1, .int a0)]) (st' := []) (h2 := (83, I, R0 p)) (by rfl) ?_
  refine TT_sub (lv2 := [(0, .ref 55), (1, .int a0), (2, .int 0), (3, .int 0)]) rfl rfl ⟨rfl, rfl, rfl, rfl, trivial⟩ ?_
  exact t_X9_standing_4 n a0 0 0 _ _ hg
def g_X9_fall_123 (n : Nat) (k20 : Int32 → Int32 → Int32 → IH → Option (IH)) (v1 : Int32) (v2 : Int32) (v3 : Int32) (v5 : Int32) (t0 : Int32) (I : IH) : Option (IH) :=
  if inB v5 64 = true then
    bnd (I 74 (Int32.toNatClampNeg v5)) fun x29 =>
    if inB v5 64 = true then
      bnd (up2 I 74 (Int32.toNatClampNeg v5) (x29 - t0)) fun J31 =>
      match g_X9_lower n v1 v3 J31 with
      | none => none
      | some (r35, J34) =>
        if inB r35 64 = true then
          bnd (J34 74 (Int32.toNatClampNeg r35)) fun x37 =>
          if inB r35 64 = true then
            bnd (up2 J34 74 (Int32.toNatClampNeg r35) (x37 + t0)) fun J39 =>
            if inB (v5 - (16 * v1)) 16 = true then
              bnd (J39 81 (Int32.toNatClampNeg (v5 - (16 * v1)))) fun x41 =>
              if inB (v5 - (16 * v1)) 16 = true then
                bnd (up2 J39 81 (Int32.toNatClampNeg (v5 - (16 * v1))) (x41 + t0)) fun J43 =>
                bnd (v3 + 1) fun x44 =>
                k20 v1 v2 x44 J43
              else none
            else none
          else none
        else none
    else none
  else none
set_option maxRecDepth 20000 in
theorem t_X9_fall_123 {p : Nat} {n : Nat} {k20 : Int32 → Int32 → Int32 → IH → Option (IH)} (hk20 : ∀ (v1 : Int32) (v2 : Int32) (v3 : Int32) (I : IH) (w : IH), k20 v1 v2 v3 I = some w → TT none mt_X9_fall 20 [(0, .ref 55), (1, .int v1), (2, .int v2), (3, .int v3)] [] (83, I, R0 p) none (83, w, R0 p)) {v1 : Int32} {v2 : Int32} {v3 : Int32} {v5 : Int32} {t0 : Int32} {I : IH} {w : IH} (hg : g_X9_fall_123 n k20 v1 v2 v3 v5 t0 I = some w) : TT none mt_X9_fall 123 [(0, .ref 55), (1, .int v1), (2, .int v2), (3, .int v3), (5, .int v5)] [.int t0] (83, I, R0 p) none (83, w, R0 p) := by
  unfold g_X9_fall_123 at hg
  refine TT_go 5 (pc' := 132) (lv' := [(4, .int t0), (0, .ref 55), (1, .int v1), (2, .int v2), (3, .int v3), (5, .int v5)]) (st' := [.int v5, .ref 74, .int v5, .ref 74]) (h2 := (83, I, R0 p)) (by rfl) ?_
  by_cases hb28 : inB v5 64 = true
  rotate_left
  · rw [if_neg hb28] at hg; cases hg
  rw [if_pos hb28] at hg
  refine TT_iald (n := 64) rfl (by rfl) hb28 ?_
  obtain ⟨x29, hx29⟩ : ∃ x : Int32, x = (I 74 (Int32.toNatClampNeg v5)) := ⟨_, rfl⟩
  replace hg := bnd_use hx29 hg
  refine TT_go 0 (pc' := 133) (lv' := [(4, .int t0), (0, .ref 55), (1, .int v1), (2, .int v2), (3, .int v3), (5, .int v5)]) (st' := [.int x29, .int v5, .ref 74]) (h2 := (83, I, R0 p)) (by subst hx29; rfl) ?_
  refine TT_go 2 (pc' := 136) (lv' := [(4, .int t0), (0, .ref 55), (1, .int v1), (2, .int v2), (3, .int v3), (5, .int v5)]) (st' := [.int (x29 - t0), .int v5, .ref 74]) (h2 := (83, I, R0 p)) (by rfl) ?_
  by_cases hb30 : inB v5 64 = true
  rotate_left
  · rw [if_neg hb30] at hg; cases hg
  rw [if_pos hb30] at hg
  refine TT_iast (n := 64) rfl (by rfl) hb30 ?_
  obtain ⟨J31, hJ31⟩ : ∃ x : IH, x = (up2 I 74 (Int32.toNatClampNeg v5) (x29 - t0)) := ⟨_, rfl⟩
  replace hg := bnd_use hJ31 hg
  refine TT_go 0 (pc' := 137) (lv' := [(4, .int t0), (0, .ref 55), (1, .int v1), (2, .int v2), (3, .int v3), (5, .int v5)]) (st' := []) (h2 := (83, J31, R0 p)) (by subst hJ31; rfl) ?_
  refine TT_go 5 (pc' := 144) (lv' := [(4, .int t0), (0, .ref 55), (1, .int v1), (2, .int v2), (3, .int v3), (5, .int v5)]) (st' := [.int v3, .int v1, .ref 55, .ref 74]) (h2 := (83, J31, R0 p)) (by rfl) ?_
  cases hq32 : g_X9_lower n v1 v3 J31 with
  | none => rw [hq32] at hg; cases hg
  | some w33 =>
    obtain ⟨r35, J34⟩ := w33
    rw [hq32] at hg
    dsimp only at hg
    refine TT_call (me' := mt_X9_lower) (as := [.ref 55, .int v1, .int v3]) (rest := [.ref 74]) (r1 := some (.int r35)) (h1 := (83, J34, R0 p)) rfl rfl (by rfl) (t_X9_lower hq32) ?_
    refine TT_go 1 (pc' := 148) (lv' := [(4, .int t0), (0, .ref 55), (1, .int v1), (2, .int v2), (3, .int v3), (5, .int v5)]) (st' := [.int r35, .ref 74, .int r35, .ref 74]) (h2 := (83, J34, R0 p)) (by rfl) ?_
    by_cases hb36 : inB r35 64 = true
    rotate_left
    · rw [if_neg hb36] at hg; cases hg
    rw [if_pos hb36] at hg
    refine TT_iald (n := 64) rfl (by rfl) hb36 ?_
    obtain ⟨x37, hx37⟩ : ∃ x : Int32, x = (J34 74 (Int32.toNatClampNeg r35)) := ⟨_, rfl⟩
    replace hg := bnd_use hx37 hg
    refine TT_go 0 (pc' := 149) (lv' := [(4, .int t0), (0, .ref 55), (1, .int v1), (2, .int v2), (3, .int v3), (5, .int v5)]) (st' := [.int x37, .int r35, .ref 74]) (h2 := (83, J34, R0 p)) (by subst hx37; rfl) ?_
    refine TT_go 2 (pc' := 152) (lv' := [(4, .int t0), (0, .ref 55), (1, .int v1), (2, .int v2), (3, .int v3), (5, .int v5)]) (st' := [.int (x37 + t0), .int r35, .ref 74]) (h2 := (83, J34, R0 p)) (by rfl) ?_
    by_cases hb38 : inB r35 64 = true
    rotate_left
    · rw [if_neg hb38] at hg; cases hg
    rw [if_pos hb38] at hg
    refine TT_iast (n := 64) rfl (by rfl) hb38 ?_
    obtain ⟨J39, hJ39⟩ : ∃ x : IH, x = (up2 J34 74 (Int32.toNatClampNeg r35) (x37 + t0)) := ⟨_, rfl⟩
    replace hg := bnd_use hJ39 hg
    refine TT_go 0 (pc' := 153) (lv' := [(4, .int t0), (0, .ref 55), (1, .int v1), (2, .int v2), (3, .int v3), (5, .int v5)]) (st' := []) (h2 := (83, J39, R0 p)) (by subst hJ39; rfl) ?_
    refine TT_go 8 (pc' := 165) (lv' := [(4, .int t0), (0, .ref 55), (1, .int v1), (2, .int v2), (3, .int v3), (5, .int v5)]) (st' := [.int (v5 - (16 * v1)), .ref 81, .int (v5 - (16 * v1)), .ref 81]) (h2 := (83, J39, R0 p)) (by rfl) ?_
    by_cases hb40 : inB (v5 - (16 * v1)) 16 = true
    rotate_left
    · rw [if_neg hb40] at hg; cases hg
    rw [if_pos hb40] at hg
    refine TT_iald (n := 16) rfl (by rfl) hb40 ?_
    obtain ⟨x41, hx41⟩ : ∃ x : Int32, x = (J39 81 (Int32.toNatClampNeg (v5 - (16 * v1)))) := ⟨_, rfl⟩
    replace hg := bnd_use hx41 hg
    refine TT_go 0 (pc' := 166) (lv' := [(4, .int t0), (0, .ref 55), (1, .int v1), (2, .int v2), (3, .int v3), (5, .int v5)]) (st' := [.int x41, .int (v5 - (16 * v1)), .ref 81]) (h2 := (83, J39, R0 p)) (by subst hx41; rfl) ?_
    refine TT_go 2 (pc' := 169) (lv' := [(4, .int t0), (0, .ref 55), (1, .int v1), (2, .int v2), (3, .int v3), (5, .int v5)]) (st' := [.int (x41 + t0), .int (v5 - (16 * v1)), .ref 81]) (h2 := (83, J39, R0 p)) (by rfl) ?_
    by_cases hb42 : inB (v5 - (16 * v1)) 16 = true
    rotate_left
    · rw [if_neg hb42] at hg; cases hg
    rw [if_pos hb42] at hg
    refine TT_iast (n := 16) rfl (by rfl) hb42 ?_
    obtain ⟨J43, hJ43⟩ : ∃ x : IH, x = (up2 J39 81 (Int32.toNatClampNeg (v5 - (16 * v1))) (x41 + t0)) := ⟨_, rfl⟩
    replace hg := bnd_use hJ43 hg
    refine TT_go 0 (pc' := 170) (lv' := [(4, .int t0), (0, .ref 55), (1, .int v1), (2, .int v2), (3, .int v3), (5, .int v5)]) (st' := []) (h2 := (83, J43, R0 p)) (by subst hJ43; rfl) ?_
    obtain ⟨x44, hx44⟩ : ∃ x : Int32, x = (v3 + 1) := ⟨_, rfl⟩
    replace hg := bnd_use hx44 hg
    refine TT_go 1 (pc' := 173) (lv' := [(3, .int x44), (4, .int t0), (0, .ref 55), (1, .int v1), (2, .int v2), (5, .int v5)]) (st' := []) (h2 := (83, J43, R0 p)) (by subst hx44; rfl) ?_
    refine TT_go 1 (pc' := 20) (lv' := [(3, .int x44), (4, .int t0), (0, .ref 55), (1, .int v1), (2, .int v2), (5, .int v5)]) (st' := []) (h2 := (83, J43, R0 p)) (by rfl) ?_
    refine TT_sub (lv2 := [(0, .ref 55), (1, .int v1), (2, .int v2), (3, .int x44)]) rfl rfl ⟨rfl, rfl, rfl, rfl, trivial⟩ ?_
    exact hk20 v1 v2 x44 _ _ hg
def g_X9_fall_89 (n : Nat) (k20 : Int32 → Int32 → Int32 → IH → Option (IH)) (v1 : Int32) (v2 : Int32) (v3 : Int32) (t0 : Int32) (I : IH) : Option (IH) :=
  match g_X9_upper n v1 v3 I with
  | none => none
  | some (r22, J21) =>
    if inB r22 64 = true then
      bnd (J21 74 (Int32.toNatClampNeg r22)) fun x24 =>
      if x24 ≤ t0 then
        if inB r22 64 = true then
          bnd (J21 74 (Int32.toNatClampNeg r22)) fun x27 =>
          g_X9_fall_123 n k20 v1 v2 v3 r22 x27 J21
        else none
      else
        g_X9_fall_123 n k20 v1 v2 v3 r22 t0 J21
    else none
set_option maxRecDepth 20000 in
theorem t_X9_fall_89 {p : Nat} {n : Nat} {k20 : Int32 → Int32 → Int32 → IH → Option (IH)} (hk20 : ∀ (v1 : Int32) (v2 : Int32) (v3 : Int32) (I : IH) (w : IH), k20 v1 v2 v3 I = some w → TT none mt_X9_fall 20 [(0, .ref 55), (1, .int v1), (2, .int v2), (3, .int v3)] [] (83, I, R0 p) none (83, w, R0 p)) {v1 : Int32} {v2 : Int32} {v3 : Int32} {t0 : Int32} {I : IH} {w : IH} (hg : g_X9_fall_89 n k20 v1 v2 v3 t0 I = some w) : TT none mt_X9_fall 89 [(0, .ref 55), (1, .int v1), (2, .int v2), (3, .int v3)] [.int t0] (83, I, R0 p) none (83, w, R0 p) := by
  unfold g_X9_fall_89 at hg
  refine TT_go 4 (pc' := 94) (lv' := [(4, .int t0), (0, .ref 55), (1, .int v1), (2, .int v2), (3, .int v3)]) (st' := [.int v3, .int v1, .ref 55]) (h2 := (83, I, R0 p)) (by rfl) ?_
  cases hq19 : g_X9_upper n v1 v3 I with
  | none => rw [hq19] at hg; cases hg
  | some w20 =>
    obtain ⟨r22, J21⟩ := w20
    rw [hq19] at hg
    dsimp only at hg
    refine TT_call (me' := mt_X9_upper) (as := [.ref 55, .int v1, .int v3]) (rest := []) (r1 := some (.int r22)) (h1 := (83, J21, R0 p)) rfl rfl (by rfl) (t_X9_upper hq19) ?_
    refine TT_go 5 (pc' := 107) (lv' := [(5, .int r22), (4, .int t0), (0, .ref 55), (1, .int v1), (2, .int v2), (3, .int v3)]) (st' := [.int r22, .ref 74, .int t0]) (h2 := (83, J21, R0 p)) (by rfl) ?_
    by_cases hb23 : inB r22 64 = true
    rotate_left
    · rw [if_neg hb23] at hg; cases hg
    rw [if_pos hb23] at hg
    refine TT_iald (n := 64) rfl (by rfl) hb23 ?_
    obtain ⟨x24, hx24⟩ : ∃ x : Int32, x = (J21 74 (Int32.toNatClampNeg r22)) := ⟨_, rfl⟩
    replace hg := bnd_use hx24 hg
    refine TT_go 0 (pc' := 108) (lv' := [(5, .int r22), (4, .int t0), (0, .ref 55), (1, .int v1), (2, .int v2), (3, .int v3)]) (st' := [.int x24, .int t0]) (h2 := (83, J21, R0 p)) (by subst hx24; rfl) ?_
    by_cases hc25 : x24 ≤ t0
    · rw [if_pos hc25] at hg
      refine TT_ige_t (t := 116) rfl rfl hc25 ?_
      refine TT_go 3 (pc' := 122) (lv' := [(5, .int r22), (4, .int t0), (0, .ref 55), (1, .int v1), (2, .int v2), (3, .int v3)]) (st' := [.int r22, .ref 74]) (h2 := (83, J21, R0 p)) (by rfl) ?_
      by_cases hb26 : inB r22 64 = true
      rotate_left
      · rw [if_neg hb26] at hg; cases hg
      rw [if_pos hb26] at hg
      refine TT_iald (n := 64) rfl (by rfl) hb26 ?_
      obtain ⟨x27, hx27⟩ : ∃ x : Int32, x = (J21 74 (Int32.toNatClampNeg r22)) := ⟨_, rfl⟩
      replace hg := bnd_use hx27 hg
      refine TT_go 0 (pc' := 123) (lv' := [(5, .int r22), (4, .int t0), (0, .ref 55), (1, .int v1), (2, .int v2), (3, .int v3)]) (st' := [.int x27]) (h2 := (83, J21, R0 p)) (by subst hx27; rfl) ?_
      refine TT_sub (lv2 := [(0, .ref 55), (1, .int v1), (2, .int v2), (3, .int v3), (5, .int r22)]) rfl rfl ⟨rfl, rfl, rfl, rfl, rfl, trivial⟩ ?_
      exact t_X9_fall_123 hk20 hg
    · rw [if_neg hc25] at hg
      refine TT_ige_f (t := 116) rfl rfl hc25 ?_
      refine TT_go 2 (pc' := 123) (lv' := [(5, .int r22), (4, .int t0), (0, .ref 55), (1, .int v1), (2, .int v2), (3, .int v3)]) (st' := [.int t0]) (h2 := (83, J21, R0 p)) (by rfl) ?_
      refine TT_sub (lv2 := [(0, .ref 55), (1, .int v1), (2, .int v2), (3, .int v3), (5, .int r22)]) rfl rfl ⟨rfl, rfl, rfl, rfl, rfl, trivial⟩ ?_
      exact t_X9_fall_123 hk20 hg
def g_X9_fall_79 (n : Nat) (k20 : Int32 → Int32 → Int32 → IH → Option (IH)) (v1 : Int32) (v2 : Int32) (v3 : Int32) (t0 : Int32) (t1 : Int32) (I : IH) : Option (IH) :=
  g_X9_fall_89 n k20 v1 v2 v3 ((t1 * t0)) I
set_option maxRecDepth 20000 in
theorem t_X9_fall_79 {p : Nat} {n : Nat} {k20 : Int32 → Int32 → Int32 → IH → Option (IH)} (hk20 : ∀ (v1 : Int32) (v2 : Int32) (v3 : Int32) (I : IH) (w : IH), k20 v1 v2 v3 I = some w → TT none mt_X9_fall 20 [(0, .ref 55), (1, .int v1), (2, .int v2), (3, .int v3)] [] (83, I, R0 p) none (83, w, R0 p)) {v1 : Int32} {v2 : Int32} {v3 : Int32} {t0 : Int32} {t1 : Int32} {I : IH} {w : IH} (hg : g_X9_fall_79 n k20 v1 v2 v3 t0 t1 I = some w) : TT none mt_X9_fall 79 [(0, .ref 55), (1, .int v1), (2, .int v2), (3, .int v3)] [.int t0, .int t1] (83, I, R0 p) none (83, w, R0 p) := by
  unfold g_X9_fall_79 at hg
  refine TT_go 2 (pc' := 89) (lv' := [(0, .ref 55), (1, .int v1), (2, .int v2), (3, .int v3)]) (st' := [.int (t1 * t0)]) (h2 := (83, I, R0 p)) (by rfl) ?_
  refine TT_sub (lv2 := [(0, .ref 55), (1, .int v1), (2, .int v2), (3, .int v3)]) rfl rfl ⟨rfl, rfl, rfl, rfl, trivial⟩ ?_
  exact t_X9_fall_89 hk20 hg
def g_X9_fall_50 (n : Nat) (k20 : Int32 → Int32 → Int32 → IH → Option (IH)) (v1 : Int32) (v2 : Int32) (v3 : Int32) (I : IH) : Option (IH) :=
  if v2 = 0 then
    if inB v3 16 = true then
      bnd (I 61 (Int32.toNatClampNeg v3)) fun x15 =>
      if inB v3 16 = true then
        bnd (I 58 (Int32.toNatClampNeg v3)) fun x17 =>
        if x17 = 3 then
          g_X9_fall_79 n k20 v1 v2 v3 2 x15 I
        else
          g_X9_fall_79 n k20 v1 v2 v3 1 x15 I
      else none
    else none
  else
    g_X9_fall_89 n k20 v1 v2 v3 0 I
set_option maxRecDepth 20000 in
theorem t_X9_fall_50 {p : Nat} {n : Nat} {k20 : Int32 → Int32 → Int32 → IH → Option (IH)} (hk20 : ∀ (v1 : Int32) (v2 : Int32) (v3 : Int32) (I : IH) (w : IH), k20 v1 v2 v3 I = some w → TT none mt_X9_fall 20 [(0, .ref 55), (1, .int v1), (2, .int v2), (3, .int v3)] [] (83, I, R0 p) none (83, w, R0 p)) {v1 : Int32} {v2 : Int32} {v3 : Int32} {I : IH} {w : IH} (hg : g_X9_fall_50 n k20 v1 v2 v3 I = some w) : TT none mt_X9_fall 50 [(0, .ref 55), (1, .int v1), (2, .int v2), (3, .int v3)] [] (83, I, R0 p) none (83, w, R0 p) := by
  unfold g_X9_fall_50 at hg
  refine TT_go 1 (pc' := 51) (lv' := [(0, .ref 55), (1, .int v1), (2, .int v2), (3, .int v3)]) (st' := [.int v2]) (h2 := (83, I, R0 p)) (by rfl) ?_
  by_cases hc13 : v2 = 0
  · rw [if_pos hc13] at hg
    refine TT_zeq_t (t := 58) rfl rfl hc13 ?_
    refine TT_go 3 (pc' := 63) (lv' := [(0, .ref 55), (1, .int v1), (2, .int v2), (3, .int v3)]) (st' := [.int v3, .ref 61]) (h2 := (83, I, R0 p)) (by rfl) ?_
    by_cases hb14 : inB v3 16 = true
    rotate_left
    · rw [if_neg hb14] at hg; cases hg
    rw [if_pos hb14] at hg
    refine TT_iald (n := 16) rfl (by rfl) hb14 ?_
    obtain ⟨x15, hx15⟩ : ∃ x : Int32, x = (I 61 (Int32.toNatClampNeg v3)) := ⟨_, rfl⟩
    replace hg := bnd_use hx15 hg
    refine TT_go 0 (pc' := 64) (lv' := [(0, .ref 55), (1, .int v1), (2, .int v2), (3, .int v3)]) (st' := [.int x15]) (h2 := (83, I, R0 p)) (by subst hx15; rfl) ?_
    refine TT_go 3 (pc' := 69) (lv' := [(0, .ref 55), (1, .int v1), (2, .int v2), (3, .int v3)]) (st' := [.int v3, .ref 58, .int x15]) (h2 := (83, I, R0 p)) (by rfl) ?_
    by_cases hb16 : inB v3 16 = true
    rotate_left
    · rw [if_neg hb16] at hg; cases hg
    rw [if_pos hb16] at hg
    refine TT_iald (n := 16) rfl (by rfl) hb16 ?_
    obtain ⟨x17, hx17⟩ : ∃ x : Int32, x = (I 58 (Int32.toNatClampNeg v3)) := ⟨_, rfl⟩
    replace hg := bnd_use hx17 hg
    refine TT_go 0 (pc' := 70) (lv' := [(0, .ref 55), (1, .int v1), (2, .int v2), (3, .int v3)]) (st' := [.int x17, .int x15]) (h2 := (83, I, R0 p)) (by subst hx17; rfl) ?_
    refine TT_go 1 (pc' := 71) (lv' := [(0, .ref 55), (1, .int v1), (2, .int v2), (3, .int v3)]) (st' := [.int 3, .int x17, .int x15]) (h2 := (83, I, R0 p)) (by rfl) ?_
    by_cases hc18 : x17 = 3
    · rw [if_pos hc18] at hg
      refine TT_ine_f (t := 78) rfl rfl hc18 ?_
      refine TT_go 2 (pc' := 79) (lv' := [(0, .ref 55), (1, .int v1), (2, .int v2), (3, .int v3)]) (st' := [.int 2, .int x15]) (h2 := (83, I, R0 p)) (by rfl) ?_
      refine TT_sub (lv2 := [(0, .ref 55), (1, .int v1), (2, .int v2), (3, .int v3)]) rfl rfl ⟨rfl, rfl, rfl, rfl, trivial⟩ ?_
      exact t_X9_fall_79 hk20 hg
    · rw [if_neg hc18] at hg
      refine TT_ine_t (t := 78) rfl rfl hc18 ?_
      refine TT_go 1 (pc' := 79) (lv' := [(0, .ref 55), (1, .int v1), (2, .int v2), (3, .int v3)]) (st' := [.int 1, .int x15]) (h2 := (83, I, R0 p)) (by rfl) ?_
      refine TT_sub (lv2 := [(0, .ref 55), (1, .int v1), (2, .int v2), (3, .int v3)]) rfl rfl ⟨rfl, rfl, rfl, rfl, trivial⟩ ?_
      exact t_X9_fall_79 hk20 hg
  · rw [if_neg hc13] at hg
    refine TT_zeq_f (t := 58) rfl rfl hc13 ?_
    refine TT_go 2 (pc' := 89) (lv' := [(0, .ref 55), (1, .int v1), (2, .int v2), (3, .int v3)]) (st' := [.int 0]) (h2 := (83, I, R0 p)) (by rfl) ?_
    refine TT_sub (lv2 := [(0, .ref 55), (1, .int v1), (2, .int v2), (3, .int v3)]) rfl rfl ⟨rfl, rfl, rfl, rfl, trivial⟩ ?_
    exact t_X9_fall_89 hk20 hg
def g_X9_fall_20 : Nat → Int32 → Int32 → Int32 → IH → Option (IH)
  | 0, _, _, _, _ => none
  | n + 1, v1, v2, v3, I =>
    bnd (I 57 0) fun x4 =>
    if x4 ≤ v3 then
      if inB v1 4 = true then
        bnd (I 76 (Int32.toNatClampNeg v1)) fun x7 =>
        if inB v1 4 = true then
          bnd (up2 I 76 (Int32.toNatClampNeg v1) (x7 + 1)) fun J9 =>
          some J9
        else none
      else none
    else
      if inB v3 16 = true then
        bnd (I 58 (Int32.toNatClampNeg v3)) fun x11 =>
        if x11 = 1 then
          g_X9_fall_50 n (g_X9_fall_20 n) v1 v2 v3 I
        else
          if inB v3 16 = true then
            bnd (I 58 (Int32.toNatClampNeg v3)) fun x46 =>
            if x46 = 3 then
              g_X9_fall_50 n (g_X9_fall_20 n) v1 v2 v3 I
            else
              if inB v3 16 = true then
                bnd (I 61 (Int32.toNatClampNeg v3)) fun x49 =>
                g_X9_fall_89 n (g_X9_fall_20 n) v1 v2 v3 x49 I
              else none
          else none
      else none
set_option maxRecDepth 20000 in
theorem t_X9_fall_20 {p : Nat} : ∀ (n : Nat) (v1 : Int32) (v2 : Int32) (v3 : Int32) (I : IH) (w : IH), g_X9_fall_20 n v1 v2 v3 I = some w → TT none mt_X9_fall 20 [(0, .ref 55), (1, .int v1), (2, .int v2), (3, .int v3)] [] (83, I, R0 p) none (83, w, R0 p) := by
  intro n
  induction n with
  | zero => intro v1 v2 v3 I w hg; cases hg
  | succ n ih =>
    intro v1 v2 v3 I w hg
    unfold g_X9_fall_20 at hg
    obtain ⟨x4, hx4⟩ : ∃ x : Int32, x = (I 57 0) := ⟨_, rfl⟩
    replace hg := bnd_use hx4 hg
    refine TT_go 5 (pc' := 27) (lv' := [(0, .ref 55), (1, .int v1), (2, .int v2), (3, .int v3)]) (st' := [.int x4, .int v3]) (h2 := (83, I, R0 p)) (by subst hx4; rfl) ?_
    by_cases hc5 : x4 ≤ v3
    · rw [if_pos hc5] at hg
      refine TT_ige_t (t := 176) rfl rfl hc5 ?_
      refine TT_go 4 (pc' := 182) (lv' := [(0, .ref 55), (1, .int v1), (2, .int v2), (3, .int v3)]) (st' := [.int v1, .ref 76, .int v1, .ref 76]) (h2 := (83, I, R0 p)) (by rfl) ?_
      by_cases hb6 : inB v1 4 = true
      rotate_left
      · rw [if_neg hb6] at hg; cases hg
      rw [if_pos hb6] at hg
      refine TT_iald (n := 4) rfl (by rfl) hb6 ?_
      obtain ⟨x7, hx7⟩ : ∃ x : Int32, x = (I 76 (Int32.toNatClampNeg v1)) := ⟨_, rfl⟩
      replace hg := bnd_use hx7 hg
      refine TT_go 0 (pc' := 183) (lv' := [(0, .ref 55), (1, .int v1), (2, .int v2), (3, .int v3)]) (st' := [.int x7, .int v1, .ref 76]) (h2 := (83, I, R0 p)) (by subst hx7; rfl) ?_
      refine TT_go 2 (pc' := 185) (lv' := [(0, .ref 55), (1, .int v1), (2, .int v2), (3, .int v3)]) (st' := [.int (x7 + 1), .int v1, .ref 76]) (h2 := (83, I, R0 p)) (by rfl) ?_
      by_cases hb8 : inB v1 4 = true
      rotate_left
      · rw [if_neg hb8] at hg; cases hg
      rw [if_pos hb8] at hg
      refine TT_iast (n := 4) rfl (by rfl) hb8 ?_
      obtain ⟨J9, hJ9⟩ : ∃ x : IH, x = (up2 I 76 (Int32.toNatClampNeg v1) (x7 + 1)) := ⟨_, rfl⟩
      replace hg := bnd_use hJ9 hg
      refine TT_go 0 (pc' := 186) (lv' := [(0, .ref 55), (1, .int v1), (2, .int v2), (3, .int v3)]) (st' := []) (h2 := (83, J9, R0 p)) (by subst hJ9; rfl) ?_
      have hg := Option.some.inj hg
      subst hg
      exact TT_ret rfl rfl
    · rw [if_neg hc5] at hg
      refine TT_ige_f (t := 176) rfl rfl hc5 ?_
      refine TT_go 3 (pc' := 35) (lv' := [(0, .ref 55), (1, .int v1), (2, .int v2), (3, .int v3)]) (st' := [.int v3, .ref 58]) (h2 := (83, I, R0 p)) (by rfl) ?_
      by_cases hb10 : inB v3 16 = true
      rotate_left
      · rw [if_neg hb10] at hg; cases hg
      rw [if_pos hb10] at hg
      refine TT_iald (n := 16) rfl (by rfl) hb10 ?_
      obtain ⟨x11, hx11⟩ : ∃ x : Int32, x = (I 58 (Int32.toNatClampNeg v3)) := ⟨_, rfl⟩
      replace hg := bnd_use hx11 hg
      refine TT_go 0 (pc' := 36) (lv' := [(0, .ref 55), (1, .int v1), (2, .int v2), (3, .int v3)]) (st' := [.int x11]) (h2 := (83, I, R0 p)) (by subst hx11; rfl) ?_
      refine TT_go 1 (pc' := 37) (lv' := [(0, .ref 55), (1, .int v1), (2, .int v2), (3, .int v3)]) (st' := [.int 1, .int x11]) (h2 := (83, I, R0 p)) (by rfl) ?_
      by_cases hc12 : x11 = 1
      · rw [if_pos hc12] at hg
        refine TT_ieq_t (t := 50) rfl rfl hc12 ?_
        refine TT_go 0 (pc' := 50) (lv' := [(0, .ref 55), (1, .int v1), (2, .int v2), (3, .int v3)]) (st' := []) (h2 := (83, I, R0 p)) (by rfl) ?_
        refine TT_sub (lv2 := [(0, .ref 55), (1, .int v1), (2, .int v2), (3, .int v3)]) rfl rfl ⟨rfl, rfl, rfl, rfl, trivial⟩ ?_
        exact t_X9_fall_50 ih hg
      · rw [if_neg hc12] at hg
        refine TT_ieq_f (t := 50) rfl rfl hc12 ?_
        refine TT_go 3 (pc' := 45) (lv' := [(0, .ref 55), (1, .int v1), (2, .int v2), (3, .int v3)]) (st' := [.int v3, .ref 58]) (h2 := (83, I, R0 p)) (by rfl) ?_
        by_cases hb45 : inB v3 16 = true
        rotate_left
        · rw [if_neg hb45] at hg; cases hg
        rw [if_pos hb45] at hg
        refine TT_iald (n := 16) rfl (by rfl) hb45 ?_
        obtain ⟨x46, hx46⟩ : ∃ x : Int32, x = (I 58 (Int32.toNatClampNeg v3)) := ⟨_, rfl⟩
        replace hg := bnd_use hx46 hg
        refine TT_go 0 (pc' := 46) (lv' := [(0, .ref 55), (1, .int v1), (2, .int v2), (3, .int v3)]) (st' := [.int x46]) (h2 := (83, I, R0 p)) (by subst hx46; rfl) ?_
        refine TT_go 1 (pc' := 47) (lv' := [(0, .ref 55), (1, .int v1), (2, .int v2), (3, .int v3)]) (st' := [.int 3, .int x46]) (h2 := (83, I, R0 p)) (by rfl) ?_
        by_cases hc47 : x46 = 3
        · rw [if_pos hc47] at hg
          refine TT_ine_f (t := 83) rfl rfl hc47 ?_
          refine TT_go 0 (pc' := 50) (lv' := [(0, .ref 55), (1, .int v1), (2, .int v2), (3, .int v3)]) (st' := []) (h2 := (83, I, R0 p)) (by rfl) ?_
          refine TT_sub (lv2 := [(0, .ref 55), (1, .int v1), (2, .int v2), (3, .int v3)]) rfl rfl ⟨rfl, rfl, rfl, rfl, trivial⟩ ?_
          exact t_X9_fall_50 ih hg
        · rw [if_neg hc47] at hg
          refine TT_ine_t (t := 83) rfl rfl hc47 ?_
          refine TT_go 3 (pc' := 88) (lv' := [(0, .ref 55), (1, .int v1), (2, .int v2), (3, .int v3)]) (st' := [.int v3, .ref 61]) (h2 := (83, I, R0 p)) (by rfl) ?_
          by_cases hb48 : inB v3 16 = true
          rotate_left
          · rw [if_neg hb48] at hg; cases hg
          rw [if_pos hb48] at hg
          refine TT_iald (n := 16) rfl (by rfl) hb48 ?_
          obtain ⟨x49, hx49⟩ : ∃ x : Int32, x = (I 61 (Int32.toNatClampNeg v3)) := ⟨_, rfl⟩
          replace hg := bnd_use hx49 hg
          refine TT_go 0 (pc' := 89) (lv' := [(0, .ref 55), (1, .int v1), (2, .int v2), (3, .int v3)]) (st' := [.int x49]) (h2 := (83, I, R0 p)) (by subst hx49; rfl) ?_
          refine TT_sub (lv2 := [(0, .ref 55), (1, .int v1), (2, .int v2), (3, .int v3)]) rfl rfl ⟨rfl, rfl, rfl, rfl, trivial⟩ ?_
          exact t_X9_fall_89 ih hg
def g_X9_fall_17 (n : Nat) (v1 : Int32) (t0 : Int32) (I : IH) : Option (IH) :=
  g_X9_fall_20 n v1 t0 0 I
set_option maxRecDepth 20000 in
theorem t_X9_fall_17 {p : Nat} {n : Nat} {v1 : Int32} {t0 : Int32} {I : IH} {w : IH} (hg : g_X9_fall_17 n v1 t0 I = some w) : TT none mt_X9_fall 17 [(0, .ref 55), (1, .int v1)] [.int t0] (83, I, R0 p) none (83, w, R0 p) := by
  unfold g_X9_fall_17 at hg
  refine TT_go 3 (pc' := 20) (lv' := [(3, .int 0), (2, .int t0), (0, .ref 55), (1, .int v1)]) (st' := []) (h2 := (83, I, R0 p)) (by rfl) ?_
  refine TT_sub (lv2 := [(0, .ref 55), (1, .int v1), (2, .int t0), (3, .int 0)]) rfl rfl ⟨rfl, rfl, rfl, rfl, trivial⟩ ?_
  exact t_X9_fall_20 n v1 t0 0 _ _ hg
def g_X9_fall (n : Nat) (a0 : Int32) (I : IH) : Option (IH) :=
  if inB a0 4 = true then
    bnd (I 76 (Int32.toNatClampNeg a0)) fun x2 =>
    if (x2 - x2 / 3 * 3) = 2 then
      g_X9_fall_17 n a0 1 I
    else
      g_X9_fall_17 n a0 0 I
  else none
set_option maxRecDepth 20000 in
theorem t_X9_fall {p : Nat} {n : Nat} {a0 : Int32} {I : IH} {w : IH} (hg : g_X9_fall n a0 I = some w) : TT none mt_X9_fall 0 (lv_args 0 [.ref 55, .int a0]) [] (83, I, R0 p) none (83, w, R0 p) := by
  unfold g_X9_fall at hg
  refine TT_go 3 (pc' := 5) (lv' := [(0, .ref 55), (1, .int a0)]) (st' := [.int a0, .ref 76]) (h2 := (83, I, R0 p)) (by rfl) ?_
  by_cases hb1 : inB a0 4 = true
  rotate_left
  · rw [if_neg hb1] at hg; cases hg
  rw [if_pos hb1] at hg
  refine TT_iald (n := 4) rfl (by rfl) hb1 ?_
  obtain ⟨x2, hx2⟩ : ∃ x : Int32, x = (I 76 (Int32.toNatClampNeg a0)) := ⟨_, rfl⟩
  replace hg := bnd_use hx2 hg
  refine TT_go 0 (pc' := 6) (lv' := [(0, .ref 55), (1, .int a0)]) (st' := [.int x2]) (h2 := (83, I, R0 p)) (by subst hx2; rfl) ?_
  refine TT_go 3 (pc' := 9) (lv' := [(0, .ref 55), (1, .int a0)]) (st' := [.int 2, .int (x2 - x2 / 3 * 3)]) (h2 := (83, I, R0 p)) (by rfl) ?_
  by_cases hc3 : (x2 - x2 / 3 * 3) = 2
  · rw [if_pos hc3] at hg
    refine TT_ine_f (t := 16) rfl rfl hc3 ?_
    refine TT_go 2 (pc' := 17) (lv' := [(0, .ref 55), (1, .int a0)]) (st' := [.int 1]) (h2 := (83, I, R0 p)) (by rfl) ?_
    refine TT_sub (lv2 := [(0, .ref 55), (1, .int a0)]) rfl rfl ⟨rfl, rfl, trivial⟩ ?_
    exact t_X9_fall_17 hg
  · rw [if_neg hc3] at hg
    refine TT_ine_t (t := 16) rfl rfl hc3 ?_
    refine TT_go 1 (pc' := 17) (lv' := [(0, .ref 55), (1, .int a0)]) (st' := [.int 0]) (h2 := (83, I, R0 p)) (by rfl) ?_
    refine TT_sub (lv2 := [(0, .ref 55), (1, .int a0)]) rfl rfl ⟨rfl, rfl, trivial⟩ ?_
    exact t_X9_fall_17 hg
def g_X9_minutes_32 : Nat → Int32 → Int32 → IH → Option (Int32 × IH)
  | 0, _, _, _ => none
  | n + 1, v1, v2, I =>
    if v1 ≤ v2 then
      bnd (up2 I 55 25 0) fun J9 =>
      bnd (J9 76 0) fun x10 =>
      some (x10, J9)
    else
      match g_X9_clerks n 0 I with
      | none => none
      | some J13 =>
        match g_X9_fall n 0 J13 with
        | none => none
        | some J16 =>
          bnd (v2 + 1) fun x17 =>
          g_X9_minutes_32 n v1 x17 J16
set_option maxRecDepth 20000 in
theorem t_X9_minutes_32 {p : Nat} : ∀ (n : Nat) (v1 : Int32) (v2 : Int32) (I : IH) (w : Int32 × IH), g_X9_minutes_32 n v1 v2 I = some w → TT none mt_X9_minutes 32 [(0, .ref 55), (1, .int v1), (2, .int v2)] [] (83, I, R0 p) (some (.int w.1)) (83, w.2, R0 p) := by
  intro n
  induction n with
  | zero => intro v1 v2 I w hg; cases hg
  | succ n ih =>
    intro v1 v2 I w hg
    unfold g_X9_minutes_32 at hg
    refine TT_go 2 (pc' := 34) (lv' := [(0, .ref 55), (1, .int v1), (2, .int v2)]) (st' := [.int v1, .int v2]) (h2 := (83, I, R0 p)) (by rfl) ?_
    by_cases hc8 : v1 ≤ v2
    · rw [if_pos hc8] at hg
      refine TT_ige_t (t := 53) rfl rfl hc8 ?_
      obtain ⟨J9, hJ9⟩ : ∃ x : IH, x = (up2 I 55 25 0) := ⟨_, rfl⟩
      replace hg := bnd_use hJ9 hg
      refine TT_go 3 (pc' := 58) (lv' := [(0, .ref 55), (1, .int v1), (2, .int v2)]) (st' := []) (h2 := (83, J9, R0 p)) (by subst hJ9; rfl) ?_
      obtain ⟨x10, hx10⟩ : ∃ x : Int32, x = (J9 76 0) := ⟨_, rfl⟩
      replace hg := bnd_use hx10 hg
      refine TT_go 4 (pc' := 64) (lv' := [(0, .ref 55), (1, .int v1), (2, .int v2)]) (st' := [.int x10]) (h2 := (83, J9, R0 p)) (by subst hx10; rfl) ?_
      have hg := Option.some.inj hg
      subst hg
      exact TT_ret rfl rfl
    · rw [if_neg hc8] at hg
      refine TT_ige_f (t := 53) rfl rfl hc8 ?_
      refine TT_go 2 (pc' := 39) (lv' := [(0, .ref 55), (1, .int v1), (2, .int v2)]) (st' := [.int 0, .ref 55]) (h2 := (83, I, R0 p)) (by rfl) ?_
      cases hq11 : g_X9_clerks n 0 I with
      | none => rw [hq11] at hg; cases hg
      | some w12 =>
        obtain ⟨J13, hJ13⟩ : ∃ J, J = w12 := ⟨_, rfl⟩
        rw [← hJ13] at hq11
        rw [hq11] at hg
        dsimp only at hg
        refine TT_call (me' := mt_X9_clerks) (as := [.ref 55, .int 0]) (rest := []) (r1 := none) (h1 := (83, J13, R0 p)) rfl rfl (by rfl) (t_X9_clerks hq11) ?_
        refine TT_go 2 (pc' := 44) (lv' := [(0, .ref 55), (1, .int v1), (2, .int v2)]) (st' := [.int 0, .ref 55]) (h2 := (83, J13, R0 p)) (by rfl) ?_
        cases hq14 : g_X9_fall n 0 J13 with
        | none => rw [hq14] at hg; cases hg
        | some w15 =>
          obtain ⟨J16, hJ16⟩ : ∃ J, J = w15 := ⟨_, rfl⟩
          rw [← hJ16] at hq14
          rw [hq14] at hg
          dsimp only at hg
          refine TT_call (me' := mt_X9_fall) (as := [.ref 55, .int 0]) (rest := []) (r1 := none) (h1 := (83, J16, R0 p)) rfl rfl (by rfl) (t_X9_fall hq14) ?_
          obtain ⟨x17, hx17⟩ : ∃ x : Int32, x = (v2 + 1) := ⟨_, rfl⟩
          replace hg := bnd_use hx17 hg
          refine TT_go 1 (pc' := 50) (lv' := [(2, .int x17), (0, .ref 55), (1, .int v1)]) (st' := []) (h2 := (83, J16, R0 p)) (by subst hx17; rfl) ?_
          refine TT_go 1 (pc' := 32) (lv' := [(2, .int x17), (0, .ref 55), (1, .int v1)]) (st' := []) (h2 := (83, J16, R0 p)) (by rfl) ?_
          refine TT_sub (lv2 := [(0, .ref 55), (1, .int v1), (2, .int x17)]) rfl rfl ⟨rfl, rfl, rfl, trivial⟩ ?_
          exact ih v1 x17 _ _ hg
def g_X9_minutes (n : Nat) (a0 : Int32) (I : IH) : Option (Int32 × IH) :=
  match g_X9_in n (Int32.toInt64 a0) 1 999 I with
  | none => none
  | some (r4, J3) =>
    if r4 = 0 then
      some ((-1), J3)
    else
      bnd (J3 76 0) fun x6 =>
      if (x6 + a0) ≤ 1000000 then
        g_X9_minutes_32 n a0 0 J3
      else
        some ((-2), J3)
set_option maxRecDepth 20000 in
theorem t_X9_minutes {p : Nat} {n : Nat} {a0 : Int32} {I : IH} {w : Int32 × IH} (hg : g_X9_minutes n a0 I = some w) : TT none mt_X9_minutes 0 (lv_args 0 [.ref 55, .int a0]) [] (83, I, R0 p) (some (.int w.1)) (83, w.2, R0 p) := by
  unfold g_X9_minutes at hg
  refine TT_go 4 (pc' := 6) (lv' := [(0, .ref 55), (1, .int a0)]) (st' := [.long 999, .long 1, .long (Int32.toInt64 a0)]) (h2 := (83, I, R0 p)) (by rfl) ?_
  cases hq1 : g_X9_in n (Int32.toInt64 a0) 1 999 I with
  | none => rw [hq1] at hg; cases hg
  | some w2 =>
    obtain ⟨r4, J3⟩ := w2
    rw [hq1] at hg
    dsimp only at hg
    refine TT_call (me' := mt_X9_in) (as := [.long (Int32.toInt64 a0), .long 1, .long 999]) (rest := []) (r1 := some (.int r4)) (h1 := (83, J3, R0 p)) rfl rfl (by rfl) (t_X9_in hq1) ?_
    refine TT_go 0 (pc' := 9) (lv' := [(0, .ref 55), (1, .int a0)]) (st' := [.int r4]) (h2 := (83, J3, R0 p)) (by rfl) ?_
    by_cases hc5 : r4 = 0
    · rw [if_pos hc5] at hg
      refine TT_zne_f (t := 14) rfl rfl hc5 ?_
      refine TT_go 1 (pc' := 13) (lv' := [(0, .ref 55), (1, .int a0)]) (st' := [.int (-1)]) (h2 := (83, J3, R0 p)) (by rfl) ?_
      have hg := Option.some.inj hg
      subst hg
      exact TT_ret rfl rfl
    · rw [if_neg hc5] at hg
      refine TT_zne_t (t := 14) rfl rfl hc5 ?_
      obtain ⟨x6, hx6⟩ : ∃ x : Int32, x = (J3 76 0) := ⟨_, rfl⟩
      replace hg := bnd_use hx6 hg
      refine TT_go 4 (pc' := 20) (lv' := [(0, .ref 55), (1, .int a0)]) (st' := [.int x6]) (h2 := (83, J3, R0 p)) (by subst hx6; rfl) ?_
      refine TT_go 3 (pc' := 24) (lv' := [(0, .ref 55), (1, .int a0)]) (st' := [.int 1000000, .int (x6 + a0)]) (h2 := (83, J3, R0 p)) (by rfl) ?_
      by_cases hc7 : (x6 + a0) ≤ 1000000
      · rw [if_pos hc7] at hg
        refine TT_ile_t (t := 30) rfl rfl hc7 ?_
        refine TT_go 2 (pc' := 32) (lv' := [(2, .int 0), (0, .ref 55), (1, .int a0)]) (st' := []) (h2 := (83, J3, R0 p)) (by rfl) ?_
        refine TT_sub (lv2 := [(0, .ref 55), (1, .int a0), (2, .int 0)]) rfl rfl ⟨rfl, rfl, rfl, trivial⟩ ?_
        exact t_X9_minutes_32 n a0 0 _ _ hg
      · rw [if_neg hc7] at hg
        refine TT_ile_f (t := 30) rfl rfl hc7 ?_
        refine TT_go 1 (pc' := 29) (lv' := [(0, .ref 55), (1, .int a0)]) (st' := [.int (-2)]) (h2 := (83, J3, R0 p)) (by rfl) ?_
        have hg := Option.some.inj hg
        subst hg
        exact TT_ret rfl rfl
def g_X9_noteUndo_51 (n : Nat) (v1 : Int32) (v2 : Int32) (v3 : Int32) (I : IH) : Option (IH) :=
  if inB (3 * (I 55 25)) 24 = true then
    bnd (up2 I 79 (Int32.toNatClampNeg (3 * (I 55 25))) v1) fun J5 =>
    if inB ((3 * (J5 55 25)) + 1) 24 = true then
      bnd (up2 J5 79 (Int32.toNatClampNeg ((3 * (J5 55 25)) + 1)) v2) fun J7 =>
      if inB ((3 * (J7 55 25)) + 2) 24 = true then
        bnd (up2 J7 79 (Int32.toNatClampNeg ((3 * (J7 55 25)) + 2)) v3) fun J9 =>
        bnd (up2 J9 55 25 ((J9 55 25) + 1)) fun J10 =>
        some J10
      else none
    else none
  else none
set_option maxRecDepth 20000 in
theorem t_X9_noteUndo_51 {p : Nat} {n : Nat} {v1 : Int32} {v2 : Int32} {v3 : Int32} {I : IH} {w : IH} (hg : g_X9_noteUndo_51 n v1 v2 v3 I = some w) : TT none mt_X9_noteUndo 51 [(0, .ref 55), (1, .int v1), (2, .int v2), (3, .int v3)] [] (83, I, R0 p) none (83, w, R0 p) := by
  unfold g_X9_noteUndo_51 at hg
  refine TT_go 7 (pc' := 62) (lv' := [(0, .ref 55), (1, .int v1), (2, .int v2), (3, .int v3)]) (st' := [.int v1, .int (3 * (I 55 25)), .ref 79]) (h2 := (83, I, R0 p)) (by rfl) ?_
  by_cases hb4 : inB (3 * (I 55 25)) 24 = true
  rotate_left
  · rw [if_neg hb4] at hg; cases hg
  rw [if_pos hb4] at hg
  refine TT_iast (n := 24) rfl (by rfl) hb4 ?_
  obtain ⟨J5, hJ5⟩ : ∃ x : IH, x = (up2 I 79 (Int32.toNatClampNeg (3 * (I 55 25))) v1) := ⟨_, rfl⟩
  replace hg := bnd_use hJ5 hg
  refine TT_go 0 (pc' := 63) (lv' := [(0, .ref 55), (1, .int v1), (2, .int v2), (3, .int v3)]) (st' := []) (h2 := (83, J5, R0 p)) (by subst hJ5; rfl) ?_
  refine TT_go 9 (pc' := 76) (lv' := [(0, .ref 55), (1, .int v1), (2, .int v2), (3, .int v3)]) (st' := [.int v2, .int ((3 * (J5 55 25)) + 1), .ref 79]) (h2 := (83, J5, R0 p)) (by rfl) ?_
  by_cases hb6 : inB ((3 * (J5 55 25)) + 1) 24 = true
  rotate_left
  · rw [if_neg hb6] at hg; cases hg
  rw [if_pos hb6] at hg
  refine TT_iast (n := 24) rfl (by rfl) hb6 ?_
  obtain ⟨J7, hJ7⟩ : ∃ x : IH, x = (up2 J5 79 (Int32.toNatClampNeg ((3 * (J5 55 25)) + 1)) v2) := ⟨_, rfl⟩
  replace hg := bnd_use hJ7 hg
  refine TT_go 0 (pc' := 77) (lv' := [(0, .ref 55), (1, .int v1), (2, .int v2), (3, .int v3)]) (st' := []) (h2 := (83, J7, R0 p)) (by subst hJ7; rfl) ?_
  refine TT_go 9 (pc' := 90) (lv' := [(0, .ref 55), (1, .int v1), (2, .int v2), (3, .int v3)]) (st' := [.int v3, .int ((3 * (J7 55 25)) + 2), .ref 79]) (h2 := (83, J7, R0 p)) (by rfl) ?_
  by_cases hb8 : inB ((3 * (J7 55 25)) + 2) 24 = true
  rotate_left
  · rw [if_neg hb8] at hg; cases hg
  rw [if_pos hb8] at hg
  refine TT_iast (n := 24) rfl (by rfl) hb8 ?_
  obtain ⟨J9, hJ9⟩ : ∃ x : IH, x = (up2 J7 79 (Int32.toNatClampNeg ((3 * (J7 55 25)) + 2)) v3) := ⟨_, rfl⟩
  replace hg := bnd_use hJ9 hg
  refine TT_go 0 (pc' := 91) (lv' := [(0, .ref 55), (1, .int v1), (2, .int v2), (3, .int v3)]) (st' := []) (h2 := (83, J9, R0 p)) (by subst hJ9; rfl) ?_
  obtain ⟨J10, hJ10⟩ : ∃ x : IH, x = (up2 J9 55 25 ((J9 55 25) + 1)) := ⟨_, rfl⟩
  replace hg := bnd_use hJ10 hg
  refine TT_go 6 (pc' := 101) (lv' := [(0, .ref 55), (1, .int v1), (2, .int v2), (3, .int v3)]) (st' := []) (h2 := (83, J10, R0 p)) (by subst hJ10; rfl) ?_
  have hg := Option.some.inj hg
  subst hg
  exact TT_ret rfl rfl
def g_X9_noteUndo_12 : Nat → Int32 → Int32 → Int32 → Int32 → IH → Option (IH)
  | 0, _, _, _, _, _ => none
  | n + 1, v1, v2, v3, v4, I =>
    if 21 ≤ v4 then
      bnd (up2 I 55 25 ((I 55 25) - 1)) fun J3 =>
      g_X9_noteUndo_51 n v1 v2 v3 J3
    else
      if inB (v4 + 3) 24 = true then
        bnd (I 79 (Int32.toNatClampNeg (v4 + 3))) fun x12 =>
        if inB v4 24 = true then
          bnd (up2 I 79 (Int32.toNatClampNeg v4) x12) fun J14 =>
          bnd (v4 + 1) fun x15 =>
          g_X9_noteUndo_12 n v1 v2 v3 x15 J14
        else none
      else none
set_option maxRecDepth 20000 in
theorem t_X9_noteUndo_12 {p : Nat} : ∀ (n : Nat) (v1 : Int32) (v2 : Int32) (v3 : Int32) (v4 : Int32) (I : IH) (w : IH), g_X9_noteUndo_12 n v1 v2 v3 v4 I = some w → TT none mt_X9_noteUndo 12 [(0, .ref 55), (1, .int v1), (2, .int v2), (3, .int v3), (4, .int v4)] [] (83, I, R0 p) none (83, w, R0 p) := by
  intro n
  induction n with
  | zero => intro v1 v2 v3 v4 I w hg; cases hg
  | succ n ih =>
    intro v1 v2 v3 v4 I w hg
    unfold g_X9_noteUndo_12 at hg
    refine TT_go 2 (pc' := 16) (lv' := [(0, .ref 55), (1, .int v1), (2, .int v2), (3, .int v3), (4, .int v4)]) (st' := [.int 21, .int v4]) (h2 := (83, I, R0 p)) (by rfl) ?_
    by_cases hc2 : 21 ≤ v4
    · rw [if_pos hc2] at hg
      refine TT_ige_t (t := 41) rfl rfl hc2 ?_
      obtain ⟨J3, hJ3⟩ : ∃ x : IH, x = (up2 I 55 25 ((I 55 25) - 1)) := ⟨_, rfl⟩
      replace hg := bnd_use hJ3 hg
      refine TT_go 6 (pc' := 51) (lv' := [(0, .ref 55), (1, .int v1), (2, .int v2), (3, .int v3), (4, .int v4)]) (st' := []) (h2 := (83, J3, R0 p)) (by subst hJ3; rfl) ?_
      refine TT_sub (lv2 := [(0, .ref 55), (1, .int v1), (2, .int v2), (3, .int v3)]) rfl rfl ⟨rfl, rfl, rfl, rfl, trivial⟩ ?_
      exact t_X9_noteUndo_51 hg
    · rw [if_neg hc2] at hg
      refine TT_ige_f (t := 41) rfl rfl hc2 ?_
      refine TT_go 8 (pc' := 33) (lv' := [(0, .ref 55), (1, .int v1), (2, .int v2), (3, .int v3), (4, .int v4)]) (st' := [.int (v4 + 3), .ref 79, .int v4, .ref 79]) (h2 := (83, I, R0 p)) (by rfl) ?_
      by_cases hb11 : inB (v4 + 3) 24 = true
      rotate_left
      · rw [if_neg hb11] at hg; cases hg
      rw [if_pos hb11] at hg
      refine TT_iald (n := 24) rfl (by rfl) hb11 ?_
      obtain ⟨x12, hx12⟩ : ∃ x : Int32, x = (I 79 (Int32.toNatClampNeg (v4 + 3))) := ⟨_, rfl⟩
      replace hg := bnd_use hx12 hg
      refine TT_go 0 (pc' := 34) (lv' := [(0, .ref 55), (1, .int v1), (2, .int v2), (3, .int v3), (4, .int v4)]) (st' := [.int x12, .int v4, .ref 79]) (h2 := (83, I, R0 p)) (by subst hx12; rfl) ?_
      by_cases hb13 : inB v4 24 = true
      rotate_left
      · rw [if_neg hb13] at hg; cases hg
      rw [if_pos hb13] at hg
      refine TT_iast (n := 24) rfl (by rfl) hb13 ?_
      obtain ⟨J14, hJ14⟩ : ∃ x : IH, x = (up2 I 79 (Int32.toNatClampNeg v4) x12) := ⟨_, rfl⟩
      replace hg := bnd_use hJ14 hg
      refine TT_go 0 (pc' := 35) (lv' := [(0, .ref 55), (1, .int v1), (2, .int v2), (3, .int v3), (4, .int v4)]) (st' := []) (h2 := (83, J14, R0 p)) (by subst hJ14; rfl) ?_
      obtain ⟨x15, hx15⟩ : ∃ x : Int32, x = (v4 + 1) := ⟨_, rfl⟩
      replace hg := bnd_use hx15 hg
      refine TT_go 1 (pc' := 38) (lv' := [(4, .int x15), (0, .ref 55), (1, .int v1), (2, .int v2), (3, .int v3)]) (st' := []) (h2 := (83, J14, R0 p)) (by subst hx15; rfl) ?_
      refine TT_go 1 (pc' := 12) (lv' := [(4, .int x15), (0, .ref 55), (1, .int v1), (2, .int v2), (3, .int v3)]) (st' := []) (h2 := (83, J14, R0 p)) (by rfl) ?_
      refine TT_sub (lv2 := [(0, .ref 55), (1, .int v1), (2, .int v2), (3, .int v3), (4, .int x15)]) rfl rfl ⟨rfl, rfl, rfl, rfl, rfl, trivial⟩ ?_
      exact ih v1 v2 v3 x15 _ _ hg
def g_X9_noteUndo (n : Nat) (a0 : Int32) (a1 : Int32) (a2 : Int32) (I : IH) : Option (IH) :=
  if (I 55 25) = 8 then
    g_X9_noteUndo_12 n a0 a1 a2 0 I
  else
    g_X9_noteUndo_51 n a0 a1 a2 I
set_option maxRecDepth 20000 in
theorem t_X9_noteUndo {p : Nat} {n : Nat} {a0 : Int32} {a1 : Int32} {a2 : Int32} {I : IH} {w : IH} (hg : g_X9_noteUndo n a0 a1 a2 I = some w) : TT none mt_X9_noteUndo 0 (lv_args 0 [.ref 55, .int a0, .int a1, .int a2]) [] (83, I, R0 p) none (83, w, R0 p) := by
  unfold g_X9_noteUndo at hg
  refine TT_go 3 (pc' := 6) (lv' := [(0, .ref 55), (1, .int a0), (2, .int a1), (3, .int a2)]) (st' := [.int 8, .int (I 55 25)]) (h2 := (83, I, R0 p)) (by rfl) ?_
  by_cases hc1 : (I 55 25) = 8
  · rw [if_pos hc1] at hg
    refine TT_ine_f (t := 51) rfl rfl hc1 ?_
    refine TT_go 2 (pc' := 12) (lv' := [(4, .int 0), (0, .ref 55), (1, .int a0), (2, .int a1), (3, .int a2)]) (st' := []) (h2 := (83, I, R0 p)) (by rfl) ?_
    refine TT_sub (lv2 := [(0, .ref 55), (1, .int a0), (2, .int a1), (3, .int a2), (4, .int 0)]) rfl rfl ⟨rfl, rfl, rfl, rfl, rfl, trivial⟩ ?_
    exact t_X9_noteUndo_12 n a0 a1 a2 0 _ _ hg
  · rw [if_neg hc1] at hg
    refine TT_ine_t (t := 51) rfl rfl hc1 ?_
    refine TT_go 0 (pc' := 51) (lv' := [(0, .ref 55), (1, .int a0), (2, .int a1), (3, .int a2)]) (st' := []) (h2 := (83, I, R0 p)) (by rfl) ?_
    refine TT_sub (lv2 := [(0, .ref 55), (1, .int a0), (2, .int a1), (3, .int a2)]) rfl rfl ⟨rfl, rfl, rfl, rfl, trivial⟩ ?_
    exact t_X9_noteUndo_51 hg
def g_X9_turn (n : Nat) (a0 : Int32) (I : IH) : Option (Int32 × IH) :=
  match g_X9_isGlass n a0 I with
  | none => none
  | some (r4, J3) =>
    if r4 = 0 then
      some ((-1), J3)
    else
      match g_X9_noteUndo n (-4) a0 0 J3 with
      | none => none
      | some J8 =>
        match g_X9_turnOf n 0 a0 J8 with
        | none => none
        | some (r12, J11) =>
          some (r12, J11)
set_option maxRecDepth 20000 in
theorem t_X9_turn {p : Nat} {n : Nat} {a0 : Int32} {I : IH} {w : Int32 × IH} (hg : g_X9_turn n a0 I = some w) : TT none mt_X9_turn 0 (lv_args 0 [.ref 55, .int a0]) [] (83, I, R0 p) (some (.int w.1)) (83, w.2, R0 p) := by
  unfold g_X9_turn at hg
  refine TT_go 2 (pc' := 2) (lv' := [(0, .ref 55), (1, .int a0)]) (st' := [.int a0, .ref 55]) (h2 := (83, I, R0 p)) (by rfl) ?_
  cases hq1 : g_X9_isGlass n a0 I with
  | none => rw [hq1] at hg; cases hg
  | some w2 =>
    obtain ⟨r4, J3⟩ := w2
    rw [hq1] at hg
    dsimp only at hg
    refine TT_call (me' := mt_X9_isGlass) (as := [.ref 55, .int a0]) (rest := []) (r1 := some (.int r4)) (h1 := (83, J3, R0 p)) rfl rfl (by rfl) (t_X9_isGlass hq1) ?_
    refine TT_go 0 (pc' := 5) (lv' := [(0, .ref 55), (1, .int a0)]) (st' := [.int r4]) (h2 := (83, J3, R0 p)) (by rfl) ?_
    by_cases hc5 : r4 = 0
    · rw [if_pos hc5] at hg
      refine TT_zne_f (t := 10) rfl rfl hc5 ?_
      refine TT_go 1 (pc' := 9) (lv' := [(0, .ref 55), (1, .int a0)]) (st' := [.int (-1)]) (h2 := (83, J3, R0 p)) (by rfl) ?_
      have hg := Option.some.inj hg
      subst hg
      exact TT_ret rfl rfl
    · rw [if_neg hc5] at hg
      refine TT_zne_t (t := 10) rfl rfl hc5 ?_
      refine TT_go 4 (pc' := 15) (lv' := [(0, .ref 55), (1, .int a0)]) (st' := [.int 0, .int a0, .int (-4), .ref 55]) (h2 := (83, J3, R0 p)) (by rfl) ?_
      cases hq6 : g_X9_noteUndo n (-4) a0 0 J3 with
      | none => rw [hq6] at hg; cases hg
      | some w7 =>
        obtain ⟨J8, hJ8⟩ : ∃ J, J = w7 := ⟨_, rfl⟩
        rw [← hJ8] at hq6
        rw [hq6] at hg
        dsimp only at hg
        refine TT_call (me' := mt_X9_noteUndo) (as := [.ref 55, .int (-4), .int a0, .int 0]) (rest := []) (r1 := none) (h1 := (83, J8, R0 p)) rfl rfl (by rfl) (t_X9_noteUndo hq6) ?_
        refine TT_go 3 (pc' := 21) (lv' := [(0, .ref 55), (1, .int a0)]) (st' := [.int a0, .int 0, .ref 55]) (h2 := (83, J8, R0 p)) (by rfl) ?_
        cases hq9 : g_X9_turnOf n 0 a0 J8 with
        | none => rw [hq9] at hg; cases hg
        | some w10 =>
          obtain ⟨r12, J11⟩ := w10
          rw [hq9] at hg
          dsimp only at hg
          refine TT_call (me' := mt_X9_turnOf) (as := [.ref 55, .int 0, .int a0]) (rest := []) (r1 := some (.int r12)) (h1 := (83, J11, R0 p)) rfl rfl (by rfl) (t_X9_turnOf hq9) ?_
          refine TT_go 0 (pc' := 24) (lv' := [(0, .ref 55), (1, .int a0)]) (st' := [.int r12]) (h2 := (83, J11, R0 p)) (by rfl) ?_
          have hg := Option.some.inj hg
          subst hg
          exact TT_ret rfl rfl
