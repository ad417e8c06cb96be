/-! Written by wip/whole/gen20.py. -/
def g_X9_split_192 (n : Nat) (t0 : Int32) (t1 : Int32) (I : IH) : Option (Int32 × IH) :=
  some ((t1 + t0), I)
set_option maxRecDepth 20000 in
theorem t_X9_split_192 {p : Nat} {n : Nat} {t0 : Int32} {t1 : Int32} {I : IH} {w : Int32 × IH} (hg : g_X9_split_192 n t0 t1 I = some w) : TT none mt_X9_split 192 [] [.int t0, .int t1] (83, I, R0 p) (some (.int w.1)) (83, w.2, R0 p) := by
  unfold g_X9_split_192 at hg
  refine TT_go 1 (pc' := 193) (lv' := []) (st' := [.int (t1 + t0)]) (h2 := (83, I, R0 p)) (by rfl) ?_
  have hg := Option.some.inj hg
  subst hg
  exact TT_ret rfl rfl
def g_X9_split_191 (n : Nat) (t0 : Int32) (I : IH) : Option (Int32 × IH) :=
  g_X9_split_192 n 0 t0 I
set_option maxRecDepth 20000 in
theorem t_X9_split_191 {p : Nat} {n : Nat} {t0 : Int32} {I : IH} {w : Int32 × IH} (hg : g_X9_split_191 n t0 I = some w) : TT none mt_X9_split 191 [] [.int t0] (83, I, R0 p) (some (.int w.1)) (83, w.2, R0 p) := by
  unfold g_X9_split_191 at hg
  refine TT_go 1 (pc' := 192) (lv' := []) (st' := [.int 0, .int t0]) (h2 := (83, I, R0 p)) (by rfl) ?_
  refine TT_sub (lv2 := []) rfl rfl trivial ?_
  exact t_X9_split_192 hg
def g_X9_split_145 (n : Nat) (k83 : Int32 → Int32 → Int64 → Int64 → Int64 → Int32 → Int32 → IH → Option (Int32 × IH)) (v1 : Int32) (v2 : Int32) (v3 : Int64) (v5 : Int64) (v7 : Int64) (v10 : Int32) (t0 : Int32) (t1 : Int32) (I : IH) : Option (Int32 × IH) :=
  bnd ((t1 + t0)) fun x38 =>
  bnd (v10 + 1) fun x39 =>
  k83 v1 v2 v3 v5 v7 x38 x39 I
set_option maxRecDepth 20000 in
theorem t_X9_split_145 {p : Nat} {n : Nat} {k83 : Int32 → Int32 → Int64 → Int64 → Int64 → Int32 → Int32 → IH → Option (Int32 × IH)} (hk83 : ∀ (v1 : Int32) (v2 : Int32) (v3 : Int64) (v5 : Int64) (v7 : Int64) (v9 : Int32) (v10 : Int32) (I : IH) (w : Int32 × IH), k83 v1 v2 v3 v5 v7 v9 v10 I = some w → TT none mt_X9_split 83 [(0, .ref 55), (1, .int v1), (2, .int v2), (3, .long v3), (5, .long v5), (7, .long v7), (9, .int v9), (10, .int v10)] [] (83, I, R0 p) (some (.int w.1)) (83, w.2, R0 p)) {v1 : Int32} {v2 : Int32} {v3 : Int64} {v5 : Int64} {v7 : Int64} {v10 : Int32} {t0 : Int32} {t1 : Int32} {I : IH} {w : Int32 × IH} (hg : g_X9_split_145 n k83 v1 v2 v3 v5 v7 v10 t0 t1 I = some w) : TT none mt_X9_split 145 [(0, .ref 55), (1, .int v1), (2, .int v2), (3, .long v3), (5, .long v5), (7, .long v7), (10, .int v10)] [.int t0, .int t1] (83, I, R0 p) (some (.int w.1)) (83, w.2, R0 p) := by
  unfold g_X9_split_145 at hg
  obtain ⟨x38, hx38⟩ : ∃ x : Int32, x = ((t1 + t0)) := ⟨_, rfl⟩
  replace hg := bnd_use hx38 hg
  refine TT_go 2 (pc' := 148) (lv' := [(9, .int x38), (0, .ref 55), (1, .int v1), (2, .int v2), (3, .long v3), (5, .long v5), (7, .long v7), (10, .int v10)]) (st' := []) (h2 := (83, I, R0 p)) (by subst hx38; rfl) ?_
  obtain ⟨x39, hx39⟩ : ∃ x : Int32, x = (v10 + 1) := ⟨_, rfl⟩
  replace hg := bnd_use hx39 hg
  refine TT_go 1 (pc' := 151) (lv' := [(10, .int x39), (9, .int x38), (0, .ref 55), (1, .int v1), (2, .int v2), (3, .long v3), (5, .long v5), (7, .long v7)]) (st' := []) (h2 := (83, I, R0 p)) (by subst hx39; rfl) ?_
  refine TT_go 1 (pc' := 83) (lv' := [(10, .int x39), (9, .int x38), (0, .ref 55), (1, .int v1), (2, .int v2), (3, .long v3), (5, .long v5), (7, .long v7)]) (st' := []) (h2 := (83, I, R0 p)) (by rfl) ?_
  refine TT_sub (lv2 := [(0, .ref 55), (1, .int v1), (2, .int v2), (3, .long v3), (5, .long v5), (7, .long v7), (9, .int x38), (10, .int x39)]) rfl rfl ⟨rfl, rfl, rfl, rfl, rfl, rfl, rfl, rfl, trivial⟩ ?_
  exact hk83 v1 v2 v3 v5 v7 x38 x39 _ _ hg
def g_X9_split_140 (n : Nat) (k83 : Int32 → Int32 → Int64 → Int64 → Int64 → Int32 → Int32 → IH → Option (Int32 × IH)) (v1 : Int32) (v2 : Int32) (v3 : Int64) (v5 : Int64) (v7 : Int64) (v10 : Int32) (t0 : Int32) (I : IH) : Option (Int32 × IH) :=
  g_X9_split_145 n k83 v1 v2 v3 v5 v7 v10 1 t0 I
set_option maxRecDepth 20000 in
theorem t_X9_split_140 {p : Nat} {n : Nat} {k83 : Int32 → Int32 → Int64 → Int64 → Int64 → Int32 → Int32 → IH → Option (Int32 × IH)} (hk83 : ∀ (v1 : Int32) (v2 : Int32) (v3 : Int64) (v5 : Int64) (v7 : Int64) (v9 : Int32) (v10 : Int32) (I : IH) (w : Int32 × IH), k83 v1 v2 v3 v5 v7 v9 v10 I = some w → TT none mt_X9_split 83 [(0, .ref 55), (1, .int v1), (2, .int v2), (3, .long v3), (5, .long v5), (7, .long v7), (9, .int v9), (10, .int v10)] [] (83, I, R0 p) (some (.int w.1)) (83, w.2, R0 p)) {v1 : Int32} {v2 : Int32} {v3 : Int64} {v5 : Int64} {v7 : Int64} {v10 : Int32} {t0 : Int32} {I : IH} {w : Int32 × IH} (hg : g_X9_split_140 n k83 v1 v2 v3 v5 v7 v10 t0 I = some w) : TT none mt_X9_split 140 [(0, .ref 55), (1, .int v1), (2, .int v2), (3, .long v3), (5, .long v5), (7, .long v7), (10, .int v10)] [.int t0] (83, I, R0 p) (some (.int w.1)) (83, w.2, R0 p) := by
  unfold g_X9_split_140 at hg
  refine TT_go 2 (pc' := 145) (lv' := [(0, .ref 55), (1, .int v1), (2, .int v2), (3, .long v3), (5, .long v5), (7, .long v7), (10, .int v10)]) (st' := [.int 1, .int t0]) (h2 := (83, I, R0 p)) (by rfl) ?_
  refine TT_sub (lv2 := [(0, .ref 55), (1, .int v1), (2, .int v2), (3, .long v3), (5, .long v5), (7, .long v7), (10, .int v10)]) rfl rfl ⟨rfl, rfl, rfl, rfl, rfl, rfl, rfl, trivial⟩ ?_
  exact t_X9_split_145 hk83 hg
def g_X9_split_144 (n : Nat) (k83 : Int32 → Int32 → Int64 → Int64 → Int64 → Int32 → Int32 → IH → Option (Int32 × IH)) (v1 : Int32) (v2 : Int32) (v3 : Int64) (v5 : Int64) (v7 : Int64) (v10 : Int32) (t0 : Int32) (I : IH) : Option (Int32 × IH) :=
  g_X9_split_145 n k83 v1 v2 v3 v5 v7 v10 0 t0 I
set_option maxRecDepth 20000 in
theorem t_X9_split_144 {p : Nat} {n : Nat} {k83 : Int32 → Int32 → Int64 → Int64 → Int64 → Int32 → Int32 → IH → Option (Int32 × IH)} (hk83 : ∀ (v1 : Int32) (v2 : Int32) (v3 : Int64) (v5 : Int64) (v7 : Int64) (v9 : Int32) (v10 : Int32) (I : IH) (w : Int32 × IH), k83 v1 v2 v3 v5 v7 v9 v10 I = some w → TT none mt_X9_split 83 [(0, .ref 55), (1, .int v1), (2, .int v2), (3, .long v3), (5, .long v5), (7, .long v7), (9, .int v9), (10, .int v10)] [] (83, I, R0 p) (some (.int w.1)) (83, w.2, R0 p)) {v1 : Int32} {v2 : Int32} {v3 : Int64} {v5 : Int64} {v7 : Int64} {v10 : Int32} {t0 : Int32} {I : IH} {w : Int32 × IH} (hg : g_X9_split_144 n k83 v1 v2 v3 v5 v7 v10 t0 I = some w) : TT none mt_X9_split 144 [(0, .ref 55), (1, .int v1), (2, .int v2), (3, .long v3), (5, .long v5), (7, .long v7), (10, .int v10)] [.int t0] (83, I, R0 p) (some (.int w.1)) (83, w.2, R0 p) := by
  unfold g_X9_split_144 at hg
  refine TT_go 1 (pc' := 145) (lv' := [(0, .ref 55), (1, .int v1), (2, .int v2), (3, .long v3), (5, .long v5), (7, .long v7), (10, .int v10)]) (st' := [.int 0, .int t0]) (h2 := (83, I, R0 p)) (by rfl) ?_
  refine TT_sub (lv2 := [(0, .ref 55), (1, .int v1), (2, .int v2), (3, .long v3), (5, .long v5), (7, .long v7), (10, .int v10)]) rfl rfl ⟨rfl, rfl, rfl, rfl, rfl, rfl, rfl, trivial⟩ ?_
  exact t_X9_split_145 hk83 hg
def g_X9_split_83 : Nat → Int32 → Int32 → Int64 → Int64 → Int64 → Int32 → Int32 → IH → Option (Int32 × IH)
  | 0, _, _, _, _, _, _, _, _ => none
  | n + 1, v1, v2, v3, v5, v7, v9, v10, I =>
    if 6 ≤ v10 then
      match g_X9_hasOf n 0 v2 I with
      | none => none
      | some (r24, J23) =>
        if v3 = 0 then none else
        bnd ((((Int32.toInt64 v1) * (Int32.toInt64 r24)) / v3)) fun x26 =>
        if (lg_cmp v7 0) ≤ 0 then
          g_X9_split_191 n ((Int64.toInt32 x26)) J23
        else
          if 0 ≤ (lg_cmp (Int32.toInt64 v9) v5) then
            g_X9_split_191 n ((Int64.toInt32 x26)) J23
          else
            g_X9_split_192 n 1 ((Int64.toInt32 x26)) J23
    else
      match g_X9_hasOf n 0 v10 I with
      | none => none
      | some (r32, J31) =>
        bnd (((Int32.toInt64 v1) * (Int32.toInt64 r32))) fun x33 =>
        if v3 = 0 then none else
        bnd ((v5 - (x33 / v3))) fun x35 =>
        if v3 = 0 then none else
        if 0 < (lg_cmp (x33 - x33 / v3 * v3) v7) then
          g_X9_split_140 n (g_X9_split_83 n) v1 v2 v3 x35 v7 v10 v9 J31
        else
          if v3 = 0 then none else
          if (lg_cmp (x33 - x33 / v3 * v3) v7) = 0 then
            if v2 ≤ v10 then
              g_X9_split_144 n (g_X9_split_83 n) v1 v2 v3 x35 v7 v10 v9 J31
            else
              g_X9_split_140 n (g_X9_split_83 n) v1 v2 v3 x35 v7 v10 v9 J31
          else
            g_X9_split_144 n (g_X9_split_83 n) v1 v2 v3 x35 v7 v10 v9 J31
set_option maxRecDepth 20000 in
theorem t_X9_split_83 {p : Nat} : ∀ (n : Nat) (v1 : Int32) (v2 : Int32) (v3 : Int64) (v5 : Int64) (v7 : Int64) (v9 : Int32) (v10 : Int32) (I : IH) (w : Int32 × IH), g_X9_split_83 n v1 v2 v3 v5 v7 v9 v10 I = some w → TT none mt_X9_split 83 [(0, .ref 55), (1, .int v1), (2, .int v2), (3, .long v3), (5, .long v5), (7, .long v7), (9, .int v9), (10, .int v10)] [] (83, I, R0 p) (some (.int w.1)) (83, w.2, R0 p) := by
  intro n
  induction n with
  | zero => intro v1 v2 v3 v5 v7 v9 v10 I w hg; cases hg
  | succ n ih =>
    intro v1 v2 v3 v5 v7 v9 v10 I w hg
    unfold g_X9_split_83 at hg
    refine TT_go 2 (pc' := 87) (lv' := [(0, .ref 55), (1, .int v1), (2, .int v2), (3, .long v3), (5, .long v5), (7, .long v7), (9, .int v9), (10, .int v10)]) (st' := [.int 6, .int v10]) (h2 := (83, I, R0 p)) (by rfl) ?_
    by_cases hc20 : 6 ≤ v10
    · rw [if_pos hc20] at hg
      refine TT_ige_t (t := 154) rfl rfl hc20 ?_
      refine TT_go 5 (pc' := 159) (lv' := [(0, .ref 55), (1, .int v1), (2, .int v2), (3, .long v3), (5, .long v5), (7, .long v7), (9, .int v9), (10, .int v10)]) (st' := [.int v2, .int 0, .ref 55, .long (Int32.toInt64 v1)]) (h2 := (83, I, R0 p)) (by rfl) ?_
      cases hq21 : g_X9_hasOf n 0 v2 I with
      | none => rw [hq21] at hg; cases hg
      | some w22 =>
        obtain ⟨r24, J23⟩ := w22
        rw [hq21] at hg
        dsimp only at hg
        refine TT_call (me' := mt_X9_hasOf) (as := [.ref 55, .int 0, .int v2]) (rest := [.long (Int32.toInt64 v1)]) (r1 := some (.int r24)) (h1 := (83, J23, R0 p)) rfl rfl (by rfl) (t_X9_hasOf hq21) ?_
        refine TT_go 3 (pc' := 165) (lv' := [(0, .ref 55), (1, .int v1), (2, .int v2), (3, .long v3), (5, .long v5), (7, .long v7), (9, .int v9), (10, .int v10)]) (st' := [.long v3, .long ((Int32.toInt64 v1) * (Int32.toInt64 r24))]) (h2 := (83, J23, R0 p)) (by rfl) ?_
        by_cases hc25 : v3 = 0
        · rw [if_pos hc25] at hg; cases hg
        rw [if_neg hc25] at hg
        refine TT_ldiv rfl hc25 ?_
        obtain ⟨x26, hx26⟩ : ∃ x : Int64, x = ((((Int32.toInt64 v1) * (Int32.toInt64 r24)) / v3)) := ⟨_, rfl⟩
        replace hg := bnd_use hx26 hg
        refine TT_go 1 (pc' := 168) (lv' := [(10, .long x26), (0, .ref 55), (1, .int v1), (2, .int v2), (3, .long v3), (5, .long v5), (7, .long v7), (9, .int v9)]) (st' := []) (h2 := (83, J23, R0 p)) (by subst hx26; rfl) ?_
        refine TT_go 5 (pc' := 175) (lv' := [(10, .long x26), (0, .ref 55), (1, .int v1), (2, .int v2), (3, .long v3), (5, .long v5), (7, .long v7), (9, .int v9)]) (st' := [.int (lg_cmp v7 0), .int (Int64.toInt32 x26)]) (h2 := (83, J23, R0 p)) (by rfl) ?_
        by_cases hc27 : (lg_cmp v7 0) ≤ 0
        · rw [if_pos hc27] at hg
          refine TT_zle_t (t := 191) rfl rfl hc27 ?_
          refine TT_go 0 (pc' := 191) (lv' := [(10, .long x26), (0, .ref 55), (1, .int v1), (2, .int v2), (3, .long v3), (5, .long v5), (7, .long v7), (9, .int v9)]) (st' := [.int (Int64.toInt32 x26)]) (h2 := (83, J23, R0 p)) (by rfl) ?_
          refine TT_sub (lv2 := []) rfl rfl trivial ?_
          exact t_X9_split_191 hg
        · rw [if_neg hc27] at hg
          refine TT_zle_f (t := 191) rfl rfl hc27 ?_
          refine TT_go 4 (pc' := 184) (lv' := [(10, .long x26), (0, .ref 55), (1, .int v1), (2, .int v2), (3, .long v3), (5, .long v5), (7, .long v7), (9, .int v9)]) (st' := [.int (lg_cmp (Int32.toInt64 v9) v5), .int (Int64.toInt32 x26)]) (h2 := (83, J23, R0 p)) (by rfl) ?_
          by_cases hc28 : 0 ≤ (lg_cmp (Int32.toInt64 v9) v5)
          · rw [if_pos hc28] at hg
            refine TT_zge_t (t := 191) rfl rfl hc28 ?_
            refine TT_go 0 (pc' := 191) (lv' := [(10, .long x26), (0, .ref 55), (1, .int v1), (2, .int v2), (3, .long v3), (5, .long v5), (7, .long v7), (9, .int v9)]) (st' := [.int (Int64.toInt32 x26)]) (h2 := (83, J23, R0 p)) (by rfl) ?_
            refine TT_sub (lv2 := []) rfl rfl trivial ?_
            exact t_X9_split_191 hg
          · rw [if_neg hc28] at hg
            refine TT_zge_f (t := 191) rfl rfl hc28 ?_
            refine TT_go 2 (pc' := 192) (lv' := [(10, .long x26), (0, .ref 55), (1, .int v1), (2, .int v2), (3, .long v3), (5, .long v5), (7, .long v7), (9, .int v9)]) (st' := [.int 1, .int (Int64.toInt32 x26)]) (h2 := (83, J23, R0 p)) (by rfl) ?_
            refine TT_sub (lv2 := []) rfl rfl trivial ?_
            exact t_X9_split_192 hg
    · rw [if_neg hc20] at hg
      refine TT_ige_f (t := 154) rfl rfl hc20 ?_
      refine TT_go 5 (pc' := 96) (lv' := [(0, .ref 55), (1, .int v1), (2, .int v2), (3, .long v3), (5, .long v5), (7, .long v7), (9, .int v9), (10, .int v10)]) (st' := [.int v10, .int 0, .ref 55, .long (Int32.toInt64 v1)]) (h2 := (83, I, R0 p)) (by rfl) ?_
      cases hq29 : g_X9_hasOf n 0 v10 I with
      | none => rw [hq29] at hg; cases hg
      | some w30 =>
        obtain ⟨r32, J31⟩ := w30
        rw [hq29] at hg
        dsimp only at hg
        refine TT_call (me' := mt_X9_hasOf) (as := [.ref 55, .int 0, .int v10]) (rest := [.long (Int32.toInt64 v1)]) (r1 := some (.int r32)) (h1 := (83, J31, R0 p)) rfl rfl (by rfl) (t_X9_hasOf hq29) ?_
        obtain ⟨x33, hx33⟩ : ∃ x : Int64, x = (((Int32.toInt64 v1) * (Int32.toInt64 r32))) := ⟨_, rfl⟩
        replace hg := bnd_use hx33 hg
        refine TT_go 3 (pc' := 103) (lv' := [(11, .long x33), (0, .ref 55), (1, .int v1), (2, .int v2), (3, .long v3), (5, .long v5), (7, .long v7), (9, .int v9), (10, .int v10)]) (st' := []) (h2 := (83, J31, R0 p)) (by subst hx33; rfl) ?_
        refine TT_go 3 (pc' := 108) (lv' := [(11, .long x33), (0, .ref 55), (1, .int v1), (2, .int v2), (3, .long v3), (5, .long v5), (7, .long v7), (9, .int v9), (10, .int v10)]) (st' := [.long v3, .long x33, .long v5]) (h2 := (83, J31, R0 p)) (by rfl) ?_
        by_cases hc34 : v3 = 0
        · rw [if_pos hc34] at hg; cases hg
        rw [if_neg hc34] at hg
        refine TT_ldiv rfl hc34 ?_
        obtain ⟨x35, hx35⟩ : ∃ x : Int64, x = ((v5 - (x33 / v3))) := ⟨_, rfl⟩
        replace hg := bnd_use hx35 hg
        refine TT_go 2 (pc' := 112) (lv' := [(5, .long x35), (11, .long x33), (0, .ref 55), (1, .int v1), (2, .int v2), (3, .long v3), (7, .long v7), (9, .int v9), (10, .int v10)]) (st' := []) (h2 := (83, J31, R0 p)) (by subst hx35; rfl) ?_
        refine TT_go 3 (pc' := 117) (lv' := [(5, .long x35), (11, .long x33), (0, .ref 55), (1, .int v1), (2, .int v2), (3, .long v3), (7, .long v7), (9, .int v9), (10, .int v10)]) (st' := [.long v3, .long x33, .int v9]) (h2 := (83, J31, R0 p)) (by rfl) ?_
        by_cases hc36 : v3 = 0
        · rw [if_pos hc36] at hg; cases hg
        rw [if_neg hc36] at hg
        refine TT_lrem rfl hc36 ?_
        refine TT_go 2 (pc' := 121) (lv' := [(5, .long x35), (11, .long x33), (0, .ref 55), (1, .int v1), (2, .int v2), (3, .long v3), (7, .long v7), (9, .int v9), (10, .int v10)]) (st' := [.int (lg_cmp (x33 - x33 / v3 * v3) v7), .int v9]) (h2 := (83, J31, R0 p)) (by rfl) ?_
        by_cases hc37 : 0 < (lg_cmp (x33 - x33 / v3 * v3) v7)
        · rw [if_pos hc37] at hg
          refine TT_zgt_t (t := 140) rfl rfl hc37 ?_
          refine TT_go 0 (pc' := 140) (lv' := [(5, .long x35), (11, .long x33), (0, .ref 55), (1, .int v1), (2, .int v2), (3, .long v3), (7, .long v7), (9, .int v9), (10, .int v10)]) (st' := [.int v9]) (h2 := (83, J31, R0 p)) (by rfl) ?_
          refine TT_sub (lv2 := [(0, .ref 55), (1, .int v1), (2, .int v2), (3, .long v3), (5, .long x35), (7, .long v7), (10, .int v10)]) rfl rfl ⟨rfl, rfl, rfl, rfl, rfl, rfl, rfl, trivial⟩ ?_
          exact t_X9_split_140 ih hg
        · rw [if_neg hc37] at hg
          refine TT_zgt_f (t := 140) rfl rfl hc37 ?_
          refine TT_go 2 (pc' := 127) (lv' := [(5, .long x35), (11, .long x33), (0, .ref 55), (1, .int v1), (2, .int v2), (3, .long v3), (7, .long v7), (9, .int v9), (10, .int v10)]) (st' := [.long v3, .long x33, .int v9]) (h2 := (83, J31, R0 p)) (by rfl) ?_
          by_cases hc40 : v3 = 0
          · rw [if_pos hc40] at hg; cases hg
          rw [if_neg hc40] at hg
          refine TT_lrem rfl hc40 ?_
          refine TT_go 2 (pc' := 131) (lv' := [(5, .long x35), (11, .long x33), (0, .ref 55), (1, .int v1), (2, .int v2), (3, .long v3), (7, .long v7), (9, .int v9), (10, .int v10)]) (st' := [.int (lg_cmp (x33 - x33 / v3 * v3) v7), .int v9]) (h2 := (83, J31, R0 p)) (by rfl) ?_
          by_cases hc41 : (lg_cmp (x33 - x33 / v3 * v3) v7) = 0
          · rw [if_pos hc41] at hg
            refine TT_zne_f (t := 144) rfl rfl hc41 ?_
            refine TT_go 2 (pc' := 137) (lv' := [(5, .long x35), (11, .long x33), (0, .ref 55), (1, .int v1), (2, .int v2), (3, .long v3), (7, .long v7), (9, .int v9), (10, .int v10)]) (st' := [.int v2, .int v10, .int v9]) (h2 := (83, J31, R0 p)) (by rfl) ?_
            by_cases hc42 : v2 ≤ v10
            · rw [if_pos hc42] at hg
              refine TT_ige_t (t := 144) rfl rfl hc42 ?_
              refine TT_go 0 (pc' := 144) (lv' := [(5, .long x35), (11, .long x33), (0, .ref 55), (1, .int v1), (2, .int v2), (3, .long v3), (7, .long v7), (9, .int v9), (10, .int v10)]) (st' := [.int v9]) (h2 := (83, J31, R0 p)) (by rfl) ?_
              refine TT_sub (lv2 := [(0, .ref 55), (1, .int v1), (2, .int v2), (3, .long v3), (5, .long x35), (7, .long v7), (10, .int v10)]) rfl rfl ⟨rfl, rfl, rfl, rfl, rfl, rfl, rfl, trivial⟩ ?_
              exact t_X9_split_144 ih hg
            · rw [if_neg hc42] at hg
              refine TT_ige_f (t := 144) rfl rfl hc42 ?_
              refine TT_go 0 (pc' := 140) (lv' := [(5, .long x35), (11, .long x33), (0, .ref 55), (1, .int v1), (2, .int v2), (3, .long v3), (7, .long v7), (9, .int v9), (10, .int v10)]) (st' := [.int v9]) (h2 := (83, J31, R0 p)) (by rfl) ?_
              refine TT_sub (lv2 := [(0, .ref 55), (1, .int v1), (2, .int v2), (3, .long v3), (5, .long x35), (7, .long v7), (10, .int v10)]) rfl rfl ⟨rfl, rfl, rfl, rfl, rfl, rfl, rfl, trivial⟩ ?_
              exact t_X9_split_140 ih hg
          · rw [if_neg hc41] at hg
            refine TT_zne_t (t := 144) rfl rfl hc41 ?_
            refine TT_go 0 (pc' := 144) (lv' := [(5, .long x35), (11, .long x33), (0, .ref 55), (1, .int v1), (2, .int v2), (3, .long v3), (7, .long v7), (9, .int v9), (10, .int v10)]) (st' := [.int v9]) (h2 := (83, J31, R0 p)) (by rfl) ?_
            refine TT_sub (lv2 := [(0, .ref 55), (1, .int v1), (2, .int v2), (3, .long v3), (5, .long x35), (7, .long v7), (10, .int v10)]) rfl rfl ⟨rfl, rfl, rfl, rfl, rfl, rfl, rfl, trivial⟩ ?_
            exact t_X9_split_144 ih hg
def g_X9_split_26 : Nat → Int32 → Int32 → Int64 → Int32 → IH → Option (Int32 × IH)
  | 0, _, _, _, _, _ => none
  | n + 1, v1, v2, v3, v5, I =>
    if 6 ≤ v5 then
      if (lg_cmp v3 0) = 0 then
        some ((-4), I)
      else
        bnd ((Int32.toInt64 v1)) fun x13 =>
        match g_X9_hasOf n 0 v2 I with
        | none => none
        | some (r17, J16) =>
          if v3 = 0 then none else
          bnd ((((Int32.toInt64 v1) * (Int32.toInt64 r17)) - ((Int32.toInt64 v1) * (Int32.toInt64 r17)) / v3 * v3)) fun x19 =>
          g_X9_split_83 n v1 v2 v3 x13 x19 0 0 J16
    else
      match g_X9_hasOf n 0 v5 I with
      | none => none
      | some (r46, J45) =>
        bnd ((v3 + (Int32.toInt64 r46))) fun x47 =>
        bnd (v5 + 1) fun x48 =>
        g_X9_split_26 n v1 v2 x47 x48 J45
set_option maxRecDepth 20000 in
theorem t_X9_split_26 {p : Nat} : ∀ (n : Nat) (v1 : Int32) (v2 : Int32) (v3 : Int64) (v5 : Int32) (I : IH) (w : Int32 × IH), g_X9_split_26 n v1 v2 v3 v5 I = some w → TT none mt_X9_split 26 [(0, .ref 55), (1, .int v1), (2, .int v2), (3, .long v3), (5, .int v5)] [] (83, I, R0 p) (some (.int w.1)) (83, w.2, R0 p) := by
  intro n
  induction n with
  | zero => intro v1 v2 v3 v5 I w hg; cases hg
  | succ n ih =>
    intro v1 v2 v3 v5 I w hg
    unfold g_X9_split_26 at hg
    refine TT_go 2 (pc' := 30) (lv' := [(0, .ref 55), (1, .int v1), (2, .int v2), (3, .long v3), (5, .int v5)]) (st' := [.int 6, .int v5]) (h2 := (83, I, R0 p)) (by rfl) ?_
    by_cases hc11 : 6 ≤ v5
    · rw [if_pos hc11] at hg
      refine TT_ige_t (t := 50) rfl rfl hc11 ?_
      refine TT_go 3 (pc' := 53) (lv' := [(0, .ref 55), (1, .int v1), (2, .int v2), (3, .long v3), (5, .int v5)]) (st' := [.int (lg_cmp v3 0)]) (h2 := (83, I, R0 p)) (by rfl) ?_
      by_cases hc12 : (lg_cmp v3 0) = 0
      · rw [if_pos hc12] at hg
        refine TT_zne_f (t := 59) rfl rfl hc12 ?_
        refine TT_go 1 (pc' := 58) (lv' := [(0, .ref 55), (1, .int v1), (2, .int v2), (3, .long v3), (5, .int v5)]) (st' := [.int (-4)]) (h2 := (83, I, R0 p)) (by rfl) ?_
        have hg := Option.some.inj hg
        subst hg
        exact TT_ret rfl rfl
      · rw [if_neg hc12] at hg
        refine TT_zne_t (t := 59) rfl rfl hc12 ?_
        obtain ⟨x13, hx13⟩ : ∃ x : Int64, x = ((Int32.toInt64 v1)) := ⟨_, rfl⟩
        replace hg := bnd_use hx13 hg
        refine TT_go 3 (pc' := 63) (lv' := [(5, .long x13), (0, .ref 55), (1, .int v1), (2, .int v2), (3, .long v3)]) (st' := []) (h2 := (83, I, R0 p)) (by subst hx13; rfl) ?_
        refine TT_go 5 (pc' := 68) (lv' := [(5, .long x13), (0, .ref 55), (1, .int v1), (2, .int v2), (3, .long v3)]) (st' := [.int v2, .int 0, .ref 55, .long (Int32.toInt64 v1)]) (h2 := (83, I, R0 p)) (by rfl) ?_
        cases hq14 : g_X9_hasOf n 0 v2 I with
        | none => rw [hq14] at hg; cases hg
        | some w15 =>
          obtain ⟨r17, J16⟩ := w15
          rw [hq14] at hg
          dsimp only at hg
          refine TT_call (me' := mt_X9_hasOf) (as := [.ref 55, .int 0, .int v2]) (rest := [.long (Int32.toInt64 v1)]) (r1 := some (.int r17)) (h1 := (83, J16, R0 p)) rfl rfl (by rfl) (t_X9_hasOf hq14) ?_
          refine TT_go 3 (pc' := 74) (lv' := [(5, .long x13), (0, .ref 55), (1, .int v1), (2, .int v2), (3, .long v3)]) (st' := [.long v3, .long ((Int32.toInt64 v1) * (Int32.toInt64 r17))]) (h2 := (83, J16, R0 p)) (by rfl) ?_
          by_cases hc18 : v3 = 0
          · rw [if_pos hc18] at hg; cases hg
          rw [if_neg hc18] at hg
          refine TT_lrem rfl hc18 ?_
          obtain ⟨x19, hx19⟩ : ∃ x : Int64, x = ((((Int32.toInt64 v1) * (Int32.toInt64 r17)) - ((Int32.toInt64 v1) * (Int32.toInt64 r17)) / v3 * v3)) := ⟨_, rfl⟩
          replace hg := bnd_use hx19 hg
          refine TT_go 1 (pc' := 77) (lv' := [(7, .long x19), (5, .long x13), (0, .ref 55), (1, .int v1), (2, .int v2), (3, .long v3)]) (st' := []) (h2 := (83, J16, R0 p)) (by subst hx19; rfl) ?_
          refine TT_go 4 (pc' := 83) (lv' := [(10, .int 0), (9, .int 0), (7, .long x19), (5, .long x13), (0, .ref 55), (1, .int v1), (2, .int v2), (3, .long v3)]) (st' := []) (h2 := (83, J16, R0 p)) (by rfl) ?_
          refine TT_sub (lv2 := [(0, .ref 55), (1, .int v1), (2, .int v2), (3, .long v3), (5, .long x13), (7, .long x19), (9, .int 0), (10, .int 0)]) rfl rfl ⟨rfl, rfl, rfl, rfl, rfl, rfl, rfl, rfl, trivial⟩ ?_
          exact t_X9_split_83 n v1 v2 v3 x13 x19 0 0 _ _ hg
    · rw [if_neg hc11] at hg
      refine TT_ige_f (t := 50) rfl rfl hc11 ?_
      refine TT_go 4 (pc' := 38) (lv' := [(0, .ref 55), (1, .int v1), (2, .int v2), (3, .long v3), (5, .int v5)]) (st' := [.int v5, .int 0, .ref 55, .long v3]) (h2 := (83, I, R0 p)) (by rfl) ?_
      cases hq43 : g_X9_hasOf n 0 v5 I with
      | none => rw [hq43] at hg; cases hg
      | some w44 =>
        obtain ⟨r46, J45⟩ := w44
        rw [hq43] at hg
        dsimp only at hg
        refine TT_call (me' := mt_X9_hasOf) (as := [.ref 55, .int 0, .int v5]) (rest := [.long v3]) (r1 := some (.int r46)) (h1 := (83, J45, R0 p)) rfl rfl (by rfl) (t_X9_hasOf hq43) ?_
        obtain ⟨x47, hx47⟩ : ∃ x : Int64, x = ((v3 + (Int32.toInt64 r46))) := ⟨_, rfl⟩
        replace hg := bnd_use hx47 hg
        refine TT_go 3 (pc' := 44) (lv' := [(3, .long x47), (0, .ref 55), (1, .int v1), (2, .int v2), (5, .int v5)]) (st' := []) (h2 := (83, J45, R0 p)) (by subst hx47; rfl) ?_
        obtain ⟨x48, hx48⟩ : ∃ x : Int32, x = (v5 + 1) := ⟨_, rfl⟩
        replace hg := bnd_use hx48 hg
        refine TT_go 1 (pc' := 47) (lv' := [(5, .int x48), (3, .long x47), (0, .ref 55), (1, .int v1), (2, .int v2)]) (st' := []) (h2 := (83, J45, R0 p)) (by subst hx48; rfl) ?_
        refine TT_go 1 (pc' := 26) (lv' := [(5, .int x48), (3, .long x47), (0, .ref 55), (1, .int v1), (2, .int v2)]) (st' := []) (h2 := (83, J45, R0 p)) (by rfl) ?_
        refine TT_sub (lv2 := [(0, .ref 55), (1, .int v1), (2, .int v2), (3, .long x47), (5, .int x48)]) rfl rfl ⟨rfl, rfl, rfl, rfl, rfl, trivial⟩ ?_
        exact ih v1 v2 x47 x48 _ _ hg
def g_X9_split (n : Nat) (a0 : Int32) (a1 : Int32) (I : IH) : Option (Int32 × IH) :=
  match g_X9_in n (Int32.toInt64 a0) 0 9999 I with
  | none => none
  | some (r4, J3) =>
    if r4 = 0 then
      some ((-1), J3)
    else
      match g_X9_isHand n a1 J3 with
      | none => none
      | some (r9, J8) =>
        if r9 = 0 then
          some ((-1), J8)
        else
          g_X9_split_26 n a0 a1 0 0 J8
set_option maxRecDepth 20000 in
theorem t_X9_split {p : Nat} {n : Nat} {a0 : Int32} {a1 : Int32} {I : IH} {w : Int32 × IH} (hg : g_X9_split n a0 a1 I = some w) : TT none mt_X9_split 0 (lv_args 0 [.ref 55, .int a0, .int a1]) [] (83, I, R0 p) (some (.int w.1)) (83, w.2, R0 p) := by
  unfold g_X9_split at hg
  refine TT_go 4 (pc' := 6) (lv' := [(0, .ref 55), (1, .int a0), (2, .int a1)]) (st' := [.long 9999, .long 0, .long (Int32.toInt64 a0)]) (h2 := (83, I, R0 p)) (by rfl) ?_
  cases hq1 : g_X9_in n (Int32.toInt64 a0) 0 9999 I with
  | none => rw [hq1] at hg; cases hg
  | some w2 =>
    obtain ⟨r4, J3⟩ := w2
    rw [hq1] at hg
    dsimp only at hg
    refine TT_call (me' := mt_X9_in) (as := [.long (Int32.toInt64 a0), .long 0, .long 9999]) (rest := []) (r1 := some (.int r4)) (h1 := (83, J3, R0 p)) rfl rfl (by rfl) (t_X9_in hq1) ?_
    refine TT_go 0 (pc' := 9) (lv' := [(0, .ref 55), (1, .int a0), (2, .int a1)]) (st' := [.int r4]) (h2 := (83, J3, R0 p)) (by rfl) ?_
    by_cases hc5 : r4 = 0
    · rw [if_pos hc5] at hg
      refine TT_zeq_t (t := 19) rfl rfl hc5 ?_
      refine TT_go 1 (pc' := 20) (lv' := [(0, .ref 55), (1, .int a0), (2, .int a1)]) (st' := [.int (-1)]) (h2 := (83, J3, R0 p)) (by rfl) ?_
      have hg := Option.some.inj hg
      subst hg
      exact TT_ret rfl rfl
    · rw [if_neg hc5] at hg
      refine TT_zeq_f (t := 19) rfl rfl hc5 ?_
      refine TT_go 1 (pc' := 13) (lv' := [(0, .ref 55), (1, .int a0), (2, .int a1)]) (st' := [.int a1]) (h2 := (83, J3, R0 p)) (by rfl) ?_
      cases hq6 : g_X9_isHand n a1 J3 with
      | none => rw [hq6] at hg; cases hg
      | some w7 =>
        obtain ⟨r9, J8⟩ := w7
        rw [hq6] at hg
        dsimp only at hg
        refine TT_call (me' := mt_X9_isHand) (as := [.int a1]) (rest := []) (r1 := some (.int r9)) (h1 := (83, J8, R0 p)) rfl rfl (by rfl) (t_X9_isHand hq6) ?_
        refine TT_go 0 (pc' := 16) (lv' := [(0, .ref 55), (1, .int a0), (2, .int a1)]) (st' := [.int r9]) (h2 := (83, J8, R0 p)) (by rfl) ?_
        by_cases hc10 : r9 = 0
        · rw [if_pos hc10] at hg
          refine TT_zne_f (t := 21) rfl rfl hc10 ?_
          refine TT_go 1 (pc' := 20) (lv' := [(0, .ref 55), (1, .int a0), (2, .int a1)]) (st' := [.int (-1)]) (h2 := (83, J8, R0 p)) (by rfl) ?_
          have hg := Option.some.inj hg
          subst hg
          exact TT_ret rfl rfl
        · rw [if_neg hc10] at hg
          refine TT_zne_t (t := 21) rfl rfl hc10 ?_
          refine TT_go 4 (pc' := 26) (lv' := [(5, .int 0), (3, .long 0), (0, .ref 55), (1, .int a0), (2, .int a1)]) (st' := []) (h2 := (83, J8, R0 p)) (by rfl) ?_
          refine TT_sub (lv2 := [(0, .ref 55), (1, .int a0), (2, .int a1), (3, .long 0), (5, .int 0)]) rfl rfl ⟨rfl, rfl, rfl, rfl, rfl, trivial⟩ ?_
          exact t_X9_split_26 n a0 a1 0 0 _ _ hg
def g_X9_draw (n : Nat) (a0 : Int32) (a1 : Int32) (a2 : Int32) (I : IH) : Option (Int32 × IH) :=
  bnd (((((7919 * (Int32.toInt64 a0)) + (6151 * (Int32.toInt64 a1))) + (3571 * (Int32.toInt64 a2))) + 1)) fun x1 =>
  some ((Int64.toInt32 (((x1 * x1) - (x1 * x1) / 65521 * 65521) - ((x1 * x1) - (x1 * x1) / 65521 * 65521) / 1000 * 1000)), I)
set_option maxRecDepth 20000 in
theorem t_X9_draw {p : Nat} {n : Nat} {a0 : Int32} {a1 : Int32} {a2 : Int32} {I : IH} {w : Int32 × IH} (hg : g_X9_draw n a0 a1 a2 I = some w) : TT none mt_X9_draw 0 (lv_args 0 [.int a0, .int a1, .int a2]) [] (83, I, R0 p) (some (.int w.1)) (83, w.2, R0 p) := by
  unfold g_X9_draw at hg
  obtain ⟨x1, hx1⟩ : ∃ x : Int64, x = (((((7919 * (Int32.toInt64 a0)) + (6151 * (Int32.toInt64 a1))) + (3571 * (Int32.toInt64 a2))) + 1)) := ⟨_, rfl⟩
  replace hg := bnd_use hx1 hg
  refine TT_go 17 (pc' := 23) (lv' := [(3, .long x1), (0, .int a0), (1, .int a1), (2, .int a2)]) (st' := []) (h2 := (83, I, R0 p)) (by subst hx1; rfl) ?_
  refine TT_go 8 (pc' := 35) (lv' := [(3, .long x1), (0, .int a0), (1, .int a1), (2, .int a2)]) (st' := [.int (Int64.toInt32 (((x1 * x1) - (x1 * x1) / 65521 * 65521) - ((x1 * x1) - (x1 * x1) / 65521 * 65521) / 1000 * 1000))]) (h2 := (83, I, R0 p)) (by rfl) ?_
  have hg := Option.some.inj hg
  subst hg
  exact TT_ret rfl rfl
def g_X9_suffer_129 (n : Nat) (v3 : Int32) (t0 : Int32) (I : IH) : Option (IH) :=
  if inB v3 64 = true then
    bnd (I 74 (Int32.toNatClampNeg v3)) fun x14 =>
    if inB v3 64 = true then
      bnd (up2 I 74 (Int32.toNatClampNeg v3) (x14 - t0)) fun J16 =>
      bnd (up2 J16 55 34 ((J16 55 34) + t0)) fun J17 =>
      some J17
    else none
  else none
set_option maxRecDepth 20000 in
theorem t_X9_suffer_129 {p : Nat} {n : Nat} {v3 : Int32} {t0 : Int32} {I : IH} {w : IH} (hg : g_X9_suffer_129 n v3 t0 I = some w) : TT none mt_X9_suffer 129 [(0, .ref 55), (3, .int v3)] [.int t0] (83, I, R0 p) none (83, w, R0 p) := by
  unfold g_X9_suffer_129 at hg
  refine TT_go 5 (pc' := 137) (lv' := [(4, .int t0), (0, .ref 55), (3, .int v3)]) (st' := [.int v3, .ref 74, .int v3, .ref 74]) (h2 := (83, I, R0 p)) (by rfl) ?_
  by_cases hb13 : inB v3 64 = true
  rotate_left
  · rw [if_neg hb13] at hg; cases hg
  rw [if_pos hb13] at hg
  refine TT_iald (n := 64) rfl (by rfl) hb13 ?_
  obtain ⟨x14, hx14⟩ : ∃ x : Int32, x = (I 74 (Int32.toNatClampNeg v3)) := ⟨_, rfl⟩
  replace hg := bnd_use hx14 hg
  refine TT_go 0 (pc' := 138) (lv' := [(4, .int t0), (0, .ref 55), (3, .int v3)]) (st' := [.int x14, .int v3, .ref 74]) (h2 := (83, I, R0 p)) (by subst hx14; rfl) ?_
  refine TT_go 2 (pc' := 141) (lv' := [(4, .int t0), (0, .ref 55), (3, .int v3)]) (st' := [.int (x14 - t0), .int v3, .ref 74]) (h2 := (83, I, R0 p)) (by rfl) ?_
  by_cases hb15 : inB v3 64 = true
  rotate_left
  · rw [if_neg hb15] at hg; cases hg
  rw [if_pos hb15] at hg
  refine TT_iast (n := 64) rfl (by rfl) hb15 ?_
  obtain ⟨J16, hJ16⟩ : ∃ x : IH, x = (up2 I 74 (Int32.toNatClampNeg v3) (x14 - t0)) := ⟨_, rfl⟩
  replace hg := bnd_use hJ16 hg
  refine TT_go 0 (pc' := 142) (lv' := [(4, .int t0), (0, .ref 55), (3, .int v3)]) (st' := []) (h2 := (83, J16, R0 p)) (by subst hJ16; rfl) ?_
  obtain ⟨J17, hJ17⟩ : ∃ x : IH, x = (up2 J16 55 34 ((J16 55 34) + t0)) := ⟨_, rfl⟩
  replace hg := bnd_use hJ17 hg
  refine TT_go 6 (pc' := 153) (lv' := [(4, .int t0), (0, .ref 55), (3, .int v3)]) (st' := []) (h2 := (83, J17, R0 p)) (by subst hJ17; rfl) ?_
  have hg := Option.some.inj hg
  subst hg
  exact TT_ret rfl rfl
def g_X9_suffer (n : Nat) (a0 : Int32) (a1 : Int32) (I : IH) : Option (IH) :=
  match g_X9_upper n 1 a0 I with
  | none => none
  | some (r4, J3) =>
    bnd (J3 72 0) fun x5 =>
    if x5 ≤ a1 then
      bnd (J3 72 0) fun x7 =>
      bnd (J3 73 0) fun x8 =>
      if (x7 + x8) ≤ a1 then
        some J3
      else
        if inB r4 64 = true then
          bnd (J3 74 (Int32.toNatClampNeg r4)) fun x11 =>
          if 3 ≤ x11 then
            g_X9_suffer_129 n r4 3 J3
          else
            if inB r4 64 = true then
              bnd (J3 74 (Int32.toNatClampNeg r4)) fun x19 =>
              g_X9_suffer_129 n r4 x19 J3
            else none
        else none
    else
      bnd (up2 J3 55 35 ((J3 55 35) ||| (1 <<< (a0 &&& 31)))) fun J20 =>
      if inB (16 + (2 * a0)) 64 = true then
        bnd (J20 74 (Int32.toNatClampNeg (16 + (2 * a0)))) fun x22 =>
        if inB ((16 + (2 * a0)) + 1) 64 = true then
          bnd (J20 74 (Int32.toNatClampNeg ((16 + (2 * a0)) + 1))) fun x24 =>
          bnd (up2 J20 55 34 ((J20 55 34) + (x22 + x24))) fun J25 =>
          if inB (16 + (2 * a0)) 64 = true then
            bnd (up2 J25 74 (Int32.toNatClampNeg (16 + (2 * a0))) 0) fun J27 =>
            if inB ((16 + (2 * a0)) + 1) 64 = true then
              bnd (up2 J27 74 (Int32.toNatClampNeg ((16 + (2 * a0)) + 1)) 0) fun J29 =>
              some J29
            else none
          else none
        else none
      else none
set_option maxRecDepth 20000 in
theorem t_X9_suffer {p : Nat} {n : Nat} {a0 : Int32} {a1 : Int32} {I : IH} {w : IH} (hg : g_X9_suffer n a0 a1 I = some w) : TT none mt_X9_suffer 0 (lv_args 0 [.ref 55, .int a0, .int a1]) [] (83, I, R0 p) none (83, w, R0 p) := by
  unfold g_X9_suffer at hg
  refine TT_go 3 (pc' := 3) (lv' := [(0, .ref 55), (1, .int a0), (2, .int a1)]) (st' := [.int a0, .int 1, .ref 55]) (h2 := (83, I, R0 p)) (by rfl) ?_
  cases hq1 : g_X9_upper n 1 a0 I with
  | none => rw [hq1] at hg; cases hg
  | some w2 =>
    obtain ⟨r4, J3⟩ := w2
    rw [hq1] at hg
    dsimp only at hg
    refine TT_call (me' := mt_X9_upper) (as := [.ref 55, .int 1, .int a0]) (rest := []) (r1 := some (.int r4)) (h1 := (83, J3, R0 p)) rfl rfl (by rfl) (t_X9_upper hq1) ?_
    obtain ⟨x5, hx5⟩ : ∃ x : Int32, x = (J3 72 0) := ⟨_, rfl⟩
    replace hg := bnd_use hx5 hg
    refine TT_go 6 (pc' := 14) (lv' := [(3, .int r4), (0, .ref 55), (1, .int a0), (2, .int a1)]) (st' := [.int x5, .int a1]) (h2 := (83, J3, R0 p)) (by subst hx5; rfl) ?_
    by_cases hc6 : x5 ≤ a1
    · rw [if_pos hc6] at hg
      refine TT_ige_t (t := 92) rfl rfl hc6 ?_
      obtain ⟨x7, hx7⟩ : ∃ x : Int32, x = (J3 72 0) := ⟨_, rfl⟩
      replace hg := bnd_use hx7 hg
      refine TT_go 5 (pc' := 99) (lv' := [(3, .int r4), (0, .ref 55), (1, .int a0), (2, .int a1)]) (st' := [.int x7, .int a1]) (h2 := (83, J3, R0 p)) (by subst hx7; rfl) ?_
      obtain ⟨x8, hx8⟩ : ∃ x : Int32, x = (J3 73 0) := ⟨_, rfl⟩
      replace hg := bnd_use hx8 hg
      refine TT_go 4 (pc' := 105) (lv' := [(3, .int r4), (0, .ref 55), (1, .int a0), (2, .int a1)]) (st' := [.int x8, .int x7, .int a1]) (h2 := (83, J3, R0 p)) (by subst hx8; rfl) ?_
      refine TT_go 1 (pc' := 106) (lv' := [(3, .int r4), (0, .ref 55), (1, .int a0), (2, .int a1)]) (st' := [.int (x7 + x8), .int a1]) (h2 := (83, J3, R0 p)) (by rfl) ?_
      by_cases hc9 : (x7 + x8) ≤ a1
      · rw [if_pos hc9] at hg
        refine TT_ige_t (t := 153) rfl rfl hc9 ?_
        refine TT_go 0 (pc' := 153) (lv' := [(3, .int r4), (0, .ref 55), (1, .int a0), (2, .int a1)]) (st' := []) (h2 := (83, J3, R0 p)) (by rfl) ?_
        have hg := Option.some.inj hg
        subst hg
        exact TT_ret rfl rfl
      · rw [if_neg hc9] at hg
        refine TT_ige_f (t := 153) rfl rfl hc9 ?_
        refine TT_go 3 (pc' := 114) (lv' := [(3, .int r4), (0, .ref 55), (1, .int a0), (2, .int a1)]) (st' := [.int r4, .ref 74]) (h2 := (83, J3, R0 p)) (by rfl) ?_
        by_cases hb10 : inB r4 64 = true
        rotate_left
        · rw [if_neg hb10] at hg; cases hg
        rw [if_pos hb10] at hg
        refine TT_iald (n := 64) rfl (by rfl) hb10 ?_
        obtain ⟨x11, hx11⟩ : ∃ x : Int32, x = (J3 74 (Int32.toNatClampNeg r4)) := ⟨_, rfl⟩
        replace hg := bnd_use hx11 hg
        refine TT_go 0 (pc' := 115) (lv' := [(3, .int r4), (0, .ref 55), (1, .int a0), (2, .int a1)]) (st' := [.int x11]) (h2 := (83, J3, R0 p)) (by subst hx11; rfl) ?_
        refine TT_go 1 (pc' := 116) (lv' := [(3, .int r4), (0, .ref 55), (1, .int a0), (2, .int a1)]) (st' := [.int 3, .int x11]) (h2 := (83, J3, R0 p)) (by rfl) ?_
        by_cases hc12 : 3 ≤ x11
        · rw [if_pos hc12] at hg
          refine TT_ige_t (t := 128) rfl rfl hc12 ?_
          refine TT_go 1 (pc' := 129) (lv' := [(3, .int r4), (0, .ref 55), (1, .int a0), (2, .int a1)]) (st' := [.int 3]) (h2 := (83, J3, R0 p)) (by rfl) ?_
          refine TT_sub (lv2 := [(0, .ref 55), (3, .int r4)]) rfl rfl ⟨rfl, rfl, trivial⟩ ?_
          exact t_X9_suffer_129 hg
        · rw [if_neg hc12] at hg
          refine TT_ige_f (t := 128) rfl rfl hc12 ?_
          refine TT_go 3 (pc' := 124) (lv' := [(3, .int r4), (0, .ref 55), (1, .int a0), (2, .int a1)]) (st' := [.int r4, .ref 74]) (h2 := (83, J3, R0 p)) (by rfl) ?_
          by_cases hb18 : inB r4 64 = true
          rotate_left
          · rw [if_neg hb18] at hg; cases hg
          rw [if_pos hb18] at hg
          refine TT_iald (n := 64) rfl (by rfl) hb18 ?_
          obtain ⟨x19, hx19⟩ : ∃ x : Int32, x = (J3 74 (Int32.toNatClampNeg r4)) := ⟨_, rfl⟩
          replace hg := bnd_use hx19 hg
          refine TT_go 0 (pc' := 125) (lv' := [(3, .int r4), (0, .ref 55), (1, .int a0), (2, .int a1)]) (st' := [.int x19]) (h2 := (83, J3, R0 p)) (by subst hx19; rfl) ?_
          refine TT_go 1 (pc' := 129) (lv' := [(3, .int r4), (0, .ref 55), (1, .int a0), (2, .int a1)]) (st' := [.int x19]) (h2 := (83, J3, R0 p)) (by rfl) ?_
          refine TT_sub (lv2 := [(0, .ref 55), (3, .int r4)]) rfl rfl ⟨rfl, rfl, trivial⟩ ?_
          exact t_X9_suffer_129 hg
    · rw [if_neg hc6] at hg
      refine TT_ige_f (t := 92) rfl rfl hc6 ?_
      obtain ⟨J20, hJ20⟩ : ∃ x : IH, x = (up2 J3 55 35 ((J3 55 35) ||| (1 <<< (a0 &&& 31)))) := ⟨_, rfl⟩
      replace hg := bnd_use hJ20 hg
      refine TT_go 8 (pc' := 29) (lv' := [(3, .int r4), (0, .ref 55), (1, .int a0), (2, .int a1)]) (st' := []) (h2 := (83, J20, R0 p)) (by subst hJ20; rfl) ?_
      refine TT_go 10 (pc' := 44) (lv' := [(3, .int r4), (0, .ref 55), (1, .int a0), (2, .int a1)]) (st' := [.int (16 + (2 * a0)), .ref 74, .int (J20 55 34), .ref 55]) (h2 := (83, J20, R0 p)) (by rfl) ?_
      by_cases hb21 : inB (16 + (2 * a0)) 64 = true
      rotate_left
      · rw [if_neg hb21] at hg; cases hg
      rw [if_pos hb21] at hg
      refine TT_iald (n := 64) rfl (by rfl) hb21 ?_
      obtain ⟨x22, hx22⟩ : ∃ x : Int32, x = (J20 74 (Int32.toNatClampNeg (16 + (2 * a0)))) := ⟨_, rfl⟩
      replace hg := bnd_use hx22 hg
      refine TT_go 0 (pc' := 45) (lv' := [(3, .int r4), (0, .ref 55), (1, .int a0), (2, .int a1)]) (st' := [.int x22, .int (J20 55 34), .ref 55]) (h2 := (83, J20, R0 p)) (by subst hx22; rfl) ?_
      refine TT_go 9 (pc' := 57) (lv' := [(3, .int r4), (0, .ref 55), (1, .int a0), (2, .int a1)]) (st' := [.int ((16 + (2 * a0)) + 1), .ref 74, .int x22, .int (J20 55 34), .ref 55]) (h2 := (83, J20, R0 p)) (by rfl) ?_
      by_cases hb23 : inB ((16 + (2 * a0)) + 1) 64 = true
      rotate_left
      · rw [if_neg hb23] at hg; cases hg
      rw [if_pos hb23] at hg
      refine TT_iald (n := 64) rfl (by rfl) hb23 ?_
      obtain ⟨x24, hx24⟩ : ∃ x : Int32, x = (J20 74 (Int32.toNatClampNeg ((16 + (2 * a0)) + 1))) := ⟨_, rfl⟩
      replace hg := bnd_use hx24 hg
      refine TT_go 0 (pc' := 58) (lv' := [(3, .int r4), (0, .ref 55), (1, .int a0), (2, .int a1)]) (st' := [.int x24, .int x22, .int (J20 55 34), .ref 55]) (h2 := (83, J20, R0 p)) (by subst hx24; rfl) ?_
      obtain ⟨J25, hJ25⟩ : ∃ x : IH, x = (up2 J20 55 34 ((J20 55 34) + (x22 + x24))) := ⟨_, rfl⟩
      replace hg := bnd_use hJ25 hg
      refine TT_go 3 (pc' := 63) (lv' := [(3, .int r4), (0, .ref 55), (1, .int a0), (2, .int a1)]) (st' := []) (h2 := (83, J25, R0 p)) (by subst hJ25; rfl) ?_
      refine TT_go 8 (pc' := 74) (lv' := [(3, .int r4), (0, .ref 55), (1, .int a0), (2, .int a1)]) (st' := [.int 0, .int (16 + (2 * a0)), .ref 74]) (h2 := (83, J25, R0 p)) (by rfl) ?_
      by_cases hb26 : inB (16 + (2 * a0)) 64 = true
      rotate_left
      · rw [if_neg hb26] at hg; cases hg
      rw [if_pos hb26] at hg
      refine TT_iast (n := 64) rfl (by rfl) hb26 ?_
      obtain ⟨J27, hJ27⟩ : ∃ x : IH, x = (up2 J25 74 (Int32.toNatClampNeg (16 + (2 * a0))) 0) := ⟨_, rfl⟩
      replace hg := bnd_use hJ27 hg
      refine TT_go 0 (pc' := 75) (lv' := [(3, .int r4), (0, .ref 55), (1, .int a0), (2, .int a1)]) (st' := []) (h2 := (83, J27, R0 p)) (by subst hJ27; rfl) ?_
      refine TT_go 10 (pc' := 88) (lv' := [(3, .int r4), (0, .ref 55), (1, .int a0), (2, .int a1)]) (st' := [.int 0, .int ((16 + (2 * a0)) + 1), .ref 74]) (h2 := (83, J27, R0 p)) (by rfl) ?_
      by_cases hb28 : inB ((16 + (2 * a0)) + 1) 64 = true
      rotate_left
      · rw [if_neg hb28] at hg; cases hg
      rw [if_pos hb28] at hg
      refine TT_iast (n := 64) rfl (by rfl) hb28 ?_
      obtain ⟨J29, hJ29⟩ : ∃ x : IH, x = (up2 J27 74 (Int32.toNatClampNeg ((16 + (2 * a0)) + 1)) 0) := ⟨_, rfl⟩
      replace hg := bnd_use hJ29 hg
      refine TT_go 0 (pc' := 89) (lv' := [(3, .int r4), (0, .ref 55), (1, .int a0), (2, .int a1)]) (st' := []) (h2 := (83, J29, R0 p)) (by subst hJ29; rfl) ?_
      refine TT_go 1 (pc' := 153) (lv' := [(3, .int r4), (0, .ref 55), (1, .int a0), (2, .int a1)]) (st' := []) (h2 := (83, J29, R0 p)) (by rfl) ?_
      have hg := Option.some.inj hg
      subst hg
      exact TT_ret rfl rfl
def g_X9_goNight_67 (n : Nat) (k18 : Int32 → Int32 → Int32 → IH → Option (IH)) (k31 : Int32 → Int32 → Int32 → Int32 → IH → Option (IH)) (v1 : Int32) (v2 : Int32) (v3 : Int32) (v4 : Int32) (I : IH) : Option (IH) :=
  bnd (v4 + 1) fun x28 =>
  k31 v1 v2 v3 x28 I
set_option maxRecDepth 20000 in
theorem t_X9_goNight_67 {p : Nat} {n : Nat} {k18 : Int32 → Int32 → Int32 → IH → Option (IH)} {k31 : Int32 → Int32 → Int32 → Int32 → IH → Option (IH)} (hk18 : ∀ (v1 : Int32) (v2 : Int32) (v3 : Int32) (I : IH) (w : IH), k18 v1 v2 v3 I = some w → TT none mt_X9_goNight 18 [(0, .ref 55), (1, .int v1), (2, .int v2), (3, .int v3)] [] (83, I, R0 p) none (83, w, R0 p)) (hk31 : ∀ (v1 : Int32) (v2 : Int32) (v3 : Int32) (v4 : Int32) (I : IH) (w : IH), k31 v1 v2 v3 v4 I = some w → TT none mt_X9_goNight 31 [(0, .ref 55), (1, .int v1), (2, .int v2), (3, .int v3), (4, .int v4)] [] (83, I, R0 p) none (83, w, R0 p)) {v1 : Int32} {v2 : Int32} {v3 : Int32} {v4 : Int32} {I : IH} {w : IH} (hg : g_X9_goNight_67 n k18 k31 v1 v2 v3 v4 I = some w) : TT none mt_X9_goNight 67 [(0, .ref 55), (1, .int v1), (2, .int v2), (3, .int v3), (4, .int v4)] [] (83, I, R0 p) none (83, w, R0 p) := by
  unfold g_X9_goNight_67 at hg
  obtain ⟨x28, hx28⟩ : ∃ x : Int32, x = (v4 + 1) := ⟨_, rfl⟩
  replace hg := bnd_use hx28 hg
  refine TT_go 1 (pc' := 70) (lv' := [(4, .int x28), (0, .ref 55), (1, .int v1), (2, .int v2), (3, .int v3)]) (st' := []) (h2 := (83, I, R0 p)) (by subst hx28; rfl) ?_
  refine TT_go 1 (pc' := 31) (lv' := [(4, .int x28), (0, .ref 55), (1, .int v1), (2, .int v2), (3, .int v3)]) (st' := []) (h2 := (83, I, R0 p)) (by rfl) ?_
  refine TT_sub (lv2 := [(0, .ref 55), (1, .int v1), (2, .int v2), (3, .int v3), (4, .int x28)]) rfl rfl ⟨rfl, rfl, rfl, rfl, rfl, trivial⟩ ?_
  exact hk31 v1 v2 v3 x28 _ _ hg
def g_X9_goNight_31 (k18 : Int32 → Int32 → Int32 → IH → Option (IH)) : Nat → Int32 → Int32 → Int32 → Int32 → IH → Option (IH)
  | 0, _, _, _, _, _ => none
  | n + 1, v1, v2, v3, v4, I =>
    bnd (I 57 0) fun x10 =>
    if x10 ≤ v4 then
      match g_X9_fall n 1 I with
      | none => none
      | some J14 =>
        bnd (v3 + 1) fun x15 =>
        k18 v1 v2 x15 J14
    else
      match g_X9_has1 n (I 55 35) v4 I with
      | none => none
      | some (r19, J18) =>
        if r19 = 0 then
          match g_X9_draw n v1 v4 v3 J18 with
          | none => none
          | some (r24, J23) =>
            match g_X9_suffer n v4 r24 J23 with
            | none => none
            | some J27 =>
              g_X9_goNight_67 n k18 (g_X9_goNight_31 k18 n) v1 v2 v3 v4 J27
        else
          g_X9_goNight_67 n k18 (g_X9_goNight_31 k18 n) v1 v2 v3 v4 J18
set_option maxRecDepth 20000 in
theorem t_X9_goNight_31 {p : Nat} {k18 : Int32 → Int32 → Int32 → IH → Option (IH)} (hk18 : ∀ (v1 : Int32) (v2 : Int32) (v3 : Int32) (I : IH) (w : IH), k18 v1 v2 v3 I = some w → TT none mt_X9_goNight 18 [(0, .ref 55), (1, .int v1), (2, .int v2), (3, .int v3)] [] (83, I, R0 p) none (83, w, R0 p)) : ∀ (n : Nat) (v1 : Int32) (v2 : Int32) (v3 : Int32) (v4 : Int32) (I : IH) (w : IH), g_X9_goNight_31 k18 n v1 v2 v3 v4 I = some w → TT none mt_X9_goNight 31 [(0, .ref 55), (1, .int v1), (2, .int v2), (3, .int v3), (4, .int v4)] [] (83, I, R0 p) none (83, w, R0 p) := by
  intro n
  induction n with
  | zero => intro v1 v2 v3 v4 I w hg; cases hg
  | succ n ih =>
    intro v1 v2 v3 v4 I w hg
    unfold g_X9_goNight_31 at hg
    obtain ⟨x10, hx10⟩ : ∃ x : Int32, x = (I 57 0) := ⟨_, rfl⟩
    replace hg := bnd_use hx10 hg
    refine TT_go 5 (pc' := 39) (lv' := [(0, .ref 55), (1, .int v1), (2, .int v2), (3, .int v3), (4, .int v4)]) (st' := [.int x10, .int v4]) (h2 := (83, I, R0 p)) (by subst hx10; rfl) ?_
    by_cases hc11 : x10 ≤ v4
    · rw [if_pos hc11] at hg
      refine TT_ige_t (t := 73) rfl rfl hc11 ?_
      refine TT_go 2 (pc' := 75) (lv' := [(0, .ref 55), (1, .int v1), (2, .int v2), (3, .int v3), (4, .int v4)]) (st' := [.int 1, .ref 55]) (h2 := (83, I, R0 p)) (by rfl) ?_
      cases hq12 : g_X9_fall n 1 I with
      | none => rw [hq12] at hg; cases hg
      | some w13 =>
        obtain ⟨J14, hJ14⟩ : ∃ J, J = w13 := ⟨_, rfl⟩
        rw [← hJ14] at hq12
        rw [hq12] at hg
        dsimp only at hg
        refine TT_call (me' := mt_X9_fall) (as := [.ref 55, .int 1]) (rest := []) (r1 := none) (h1 := (83, J14, R0 p)) rfl rfl (by rfl) (t_X9_fall hq12) ?_
        obtain ⟨x15, hx15⟩ : ∃ x : Int32, x = (v3 + 1) := ⟨_, rfl⟩
        replace hg := bnd_use hx15 hg
        refine TT_go 1 (pc' := 81) (lv' := [(3, .int x15), (0, .ref 55), (1, .int v1), (2, .int v2), (4, .int v4)]) (st' := []) (h2 := (83, J14, R0 p)) (by subst hx15; rfl) ?_
        refine TT_go 1 (pc' := 18) (lv' := [(3, .int x15), (0, .ref 55), (1, .int v1), (2, .int v2), (4, .int v4)]) (st' := []) (h2 := (83, J14, R0 p)) (by rfl) ?_
        refine TT_sub (lv2 := [(0, .ref 55), (1, .int v1), (2, .int v2), (3, .int x15)]) rfl rfl ⟨rfl, rfl, rfl, rfl, trivial⟩ ?_
        exact hk18 v1 v2 x15 _ _ hg
    · rw [if_neg hc11] at hg
      refine TT_ige_f (t := 73) rfl rfl hc11 ?_
      refine TT_go 3 (pc' := 48) (lv' := [(0, .ref 55), (1, .int v1), (2, .int v2), (3, .int v3), (4, .int v4)]) (st' := [.int v4, .int (I 55 35)]) (h2 := (83, I, R0 p)) (by rfl) ?_
      cases hq16 : g_X9_has1 n (I 55 35) v4 I with
      | none => rw [hq16] at hg; cases hg
      | some w17 =>
        obtain ⟨r19, J18⟩ := w17
        rw [hq16] at hg
        dsimp only at hg
        refine TT_call (me' := mt_X9_has1) (as := [.int (I 55 35), .int v4]) (rest := []) (r1 := some (.int r19)) (h1 := (83, J18, R0 p)) rfl rfl (by rfl) (t_X9_has1 hq16) ?_
        refine TT_go 0 (pc' := 51) (lv' := [(0, .ref 55), (1, .int v1), (2, .int v2), (3, .int v3), (4, .int v4)]) (st' := [.int r19]) (h2 := (83, J18, R0 p)) (by rfl) ?_
        by_cases hc20 : r19 = 0
        · rw [if_pos hc20] at hg
          refine TT_zne_f (t := 67) rfl rfl hc20 ?_
          refine TT_go 5 (pc' := 61) (lv' := [(0, .ref 55), (1, .int v1), (2, .int v2), (3, .int v3), (4, .int v4)]) (st' := [.int v3, .int v4, .int v1, .int v4, .ref 55]) (h2 := (83, J18, R0 p)) (by rfl) ?_
          cases hq21 : g_X9_draw n v1 v4 v3 J18 with
          | none => rw [hq21] at hg; cases hg
          | some w22 =>
            obtain ⟨r24, J23⟩ := w22
            rw [hq21] at hg
            dsimp only at hg
            refine TT_call (me' := mt_X9_draw) (as := [.int v1, .int v4, .int v3]) (rest := [.int v4, .ref 55]) (r1 := some (.int r24)) (h1 := (83, J23, R0 p)) rfl rfl (by rfl) (t_X9_draw hq21) ?_
            refine TT_go 0 (pc' := 64) (lv' := [(0, .ref 55), (1, .int v1), (2, .int v2), (3, .int v3), (4, .int v4)]) (st' := [.int r24, .int v4, .ref 55]) (h2 := (83, J23, R0 p)) (by rfl) ?_
            cases hq25 : g_X9_suffer n v4 r24 J23 with
            | none => rw [hq25] at hg; cases hg
            | some w26 =>
              obtain ⟨J27, hJ27⟩ : ∃ J, J = w26 := ⟨_, rfl⟩
              rw [← hJ27] at hq25
              rw [hq25] at hg
              dsimp only at hg
              refine TT_call (me' := mt_X9_suffer) (as := [.ref 55, .int v4, .int r24]) (rest := []) (r1 := none) (h1 := (83, J27, R0 p)) rfl rfl (by rfl) (t_X9_suffer hq25) ?_
              refine TT_go 0 (pc' := 67) (lv' := [(0, .ref 55), (1, .int v1), (2, .int v2), (3, .int v3), (4, .int v4)]) (st' := []) (h2 := (83, J27, R0 p)) (by rfl) ?_
              refine TT_sub (lv2 := [(0, .ref 55), (1, .int v1), (2, .int v2), (3, .int v3), (4, .int v4)]) rfl rfl ⟨rfl, rfl, rfl, rfl, rfl, trivial⟩ ?_
              exact t_X9_goNight_67 hk18 ih hg
        · rw [if_neg hc20] at hg
          refine TT_zne_t (t := 67) rfl rfl hc20 ?_
          refine TT_go 0 (pc' := 67) (lv' := [(0, .ref 55), (1, .int v1), (2, .int v2), (3, .int v3), (4, .int v4)]) (st' := []) (h2 := (83, J18, R0 p)) (by rfl) ?_
          refine TT_sub (lv2 := [(0, .ref 55), (1, .int v1), (2, .int v2), (3, .int v3), (4, .int v4)]) rfl rfl ⟨rfl, rfl, rfl, rfl, rfl, trivial⟩ ?_
          exact t_X9_goNight_67 hk18 ih hg
def g_X9_goNight_18 : Nat → Int32 → Int32 → Int32 → IH → Option (IH)
  | 0, _, _, _, _ => none
  | n + 1, v1, v2, v3, I =>
    if v2 ≤ v3 then
      some I
    else
      match g_X9_clerks n 1 I with
      | none => none
      | some J9 =>
        g_X9_goNight_31 (g_X9_goNight_18 n) n v1 v2 v3 0 J9
set_option maxRecDepth 20000 in
theorem t_X9_goNight_18 {p : Nat} : ∀ (n : Nat) (v1 : Int32) (v2 : Int32) (v3 : Int32) (I : IH) (w : IH), g_X9_goNight_18 n v1 v2 v3 I = some w → TT none mt_X9_goNight 18 [(0, .ref 55), (1, .int v1), (2, .int v2), (3, .int v3)] [] (83, I, R0 p) none (83, w, R0 p) := by
  intro n
  induction n with
  | zero => intro v1 v2 v3 I w hg; cases hg
  | succ n ih =>
    intro v1 v2 v3 I w hg
    unfold g_X9_goNight_18 at hg
    refine TT_go 2 (pc' := 20) (lv' := [(0, .ref 55), (1, .int v1), (2, .int v2), (3, .int v3)]) (st' := [.int v2, .int v3]) (h2 := (83, I, R0 p)) (by rfl) ?_
    by_cases hc6 : v2 ≤ v3
    · rw [if_pos hc6] at hg
      refine TT_ige_t (t := 84) rfl rfl hc6 ?_
      refine TT_go 0 (pc' := 84) (lv' := [(0, .ref 55), (1, .int v1), (2, .int v2), (3, .int v3)]) (st' := []) (h2 := (83, I, R0 p)) (by rfl) ?_
      have hg := Option.some.inj hg
      subst hg
      exact TT_ret rfl rfl
    · rw [if_neg hc6] at hg
      refine TT_ige_f (t := 84) rfl rfl hc6 ?_
      refine TT_go 2 (pc' := 25) (lv' := [(0, .ref 55), (1, .int v1), (2, .int v2), (3, .int v3)]) (st' := [.int 1, .ref 55]) (h2 := (83, I, R0 p)) (by rfl) ?_
      cases hq7 : g_X9_clerks n 1 I with
      | none => rw [hq7] at hg; cases hg
      | some w8 =>
        obtain ⟨J9, hJ9⟩ : ∃ J, J = w8 := ⟨_, rfl⟩
        rw [← hJ9] at hq7
        rw [hq7] at hg
        dsimp only at hg
        refine TT_call (me' := mt_X9_clerks) (as := [.ref 55, .int 1]) (rest := []) (r1 := none) (h1 := (83, J9, R0 p)) rfl rfl (by rfl) (t_X9_clerks hq7) ?_
        refine TT_go 2 (pc' := 31) (lv' := [(4, .int 0), (0, .ref 55), (1, .int v1), (2, .int v2), (3, .int v3)]) (st' := []) (h2 := (83, J9, R0 p)) (by rfl) ?_
        refine TT_sub (lv2 := [(0, .ref 55), (1, .int v1), (2, .int v2), (3, .int v3), (4, .int 0)]) rfl rfl ⟨rfl, rfl, rfl, rfl, rfl, trivial⟩ ?_
        exact t_X9_goNight_31 ih n v1 v2 v3 0 _ _ hg
def g_X9_goNight (n : Nat) (a0 : Int32) (a1 : Int32) (I : IH) : Option (IH) :=
  match g_X9_copy n 0 1 I with
  | none => none
  | some J3 =>
    bnd (up2 J3 55 34 0) fun J4 =>
    bnd (up2 J4 55 35 0) fun J5 =>
    g_X9_goNight_18 n a0 a1 0 J5
set_option maxRecDepth 20000 in
theorem t_X9_goNight {p : Nat} {n : Nat} {a0 : Int32} {a1 : Int32} {I : IH} {w : IH} (hg : g_X9_goNight n a0 a1 I = some w) : TT none mt_X9_goNight 0 (lv_args 0 [.ref 55, .int a0, .int a1]) [] (83, I, R0 p) none (83, w, R0 p) := by
  unfold g_X9_goNight at hg
  refine TT_go 3 (pc' := 3) (lv' := [(0, .ref 55), (1, .int a0), (2, .int a1)]) (st' := [.int 1, .int 0, .ref 55]) (h2 := (83, I, R0 p)) (by rfl) ?_
  cases hq1 : g_X9_copy n 0 1 I with
  | none => rw [hq1] at hg; cases hg
  | some w2 =>
    obtain ⟨J3, hJ3⟩ : ∃ J, J = w2 := ⟨_, rfl⟩
    rw [← hJ3] at hq1
    rw [hq1] at hg
    dsimp only at hg
    refine TT_call (me' := mt_X9_copy) (as := [.ref 55, .int 0, .int 1]) (rest := []) (r1 := none) (h1 := (83, J3, R0 p)) rfl rfl (by rfl) (t_X9_copy hq1) ?_
    obtain ⟨J4, hJ4⟩ : ∃ x : IH, x = (up2 J3 55 34 0) := ⟨_, rfl⟩
    replace hg := bnd_use hJ4 hg
    refine TT_go 3 (pc' := 11) (lv' := [(0, .ref 55), (1, .int a0), (2, .int a1)]) (st' := []) (h2 := (83, J4, R0 p)) (by subst hJ4; rfl) ?_
    obtain ⟨J5, hJ5⟩ : ∃ x : IH, x = (up2 J4 55 35 0) := ⟨_, rfl⟩
    replace hg := bnd_use hJ5 hg
    refine TT_go 3 (pc' := 16) (lv' := [(0, .ref 55), (1, .int a0), (2, .int a1)]) (st' := []) (h2 := (83, J5, R0 p)) (by subst hJ5; rfl) ?_
    refine TT_go 2 (pc' := 18) (lv' := [(3, .int 0), (0, .ref 55), (1, .int a0), (2, .int a1)]) (st' := []) (h2 := (83, J5, R0 p)) (by rfl) ?_
    refine TT_sub (lv2 := [(0, .ref 55), (1, .int a0), (2, .int a1), (3, .int 0)]) rfl rfl ⟨rfl, rfl, rfl, rfl, trivial⟩ ?_
    exact t_X9_goNight_18 n a0 a1 0 _ _ hg
def g_X9_isNight (n : Nat) (a0 : Int32) (a1 : Int32) (I : IH) : Option (Int32 × IH) :=
  match g_X9_in n (Int32.toInt64 a0) 0 9999 I with
  | none => none
  | some (r4, J3) =>
    if r4 = 0 then
      some (0, J3)
    else
      match g_X9_in n (Int32.toInt64 a1) 0 2000 J3 with
      | none => none
      | some (r9, J8) =>
        if r9 = 0 then
          some (0, J8)
        else
          some (1, J8)
set_option maxRecDepth 20000 in
theorem t_X9_isNight {p : Nat} {n : Nat} {a0 : Int32} {a1 : Int32} {I : IH} {w : Int32 × IH} (hg : g_X9_isNight n a0 a1 I = some w) : TT none mt_X9_isNight 0 (lv_args 0 [.int a0, .int a1]) [] (83, I, R0 p) (some (.int w.1)) (83, w.2, R0 p) := by
  unfold g_X9_isNight at hg
  refine TT_go 4 (pc' := 6) (lv' := [(0, .int a0), (1, .int a1)]) (st' := [.long 9999, .long 0, .long (Int32.toInt64 a0)]) (h2 := (83, I, R0 p)) (by rfl) ?_
  cases hq1 : g_X9_in n (Int32.toInt64 a0) 0 9999 I with
  | none => rw [hq1] at hg; cases hg
  | some w2 =>
    obtain ⟨r4, J3⟩ := w2
    rw [hq1] at hg
    dsimp only at hg
    refine TT_call (me' := mt_X9_in) (as := [.long (Int32.toInt64 a0), .long 0, .long 9999]) (rest := []) (r1 := some (.int r4)) (h1 := (83, J3, R0 p)) rfl rfl (by rfl) (t_X9_in hq1) ?_
    refine TT_go 0 (pc' := 9) (lv' := [(0, .int a0), (1, .int a1)]) (st' := [.int r4]) (h2 := (83, J3, R0 p)) (by rfl) ?_
    by_cases hc5 : r4 = 0
    · rw [if_pos hc5] at hg
      refine TT_zeq_t (t := 28) rfl rfl hc5 ?_
      refine TT_go 1 (pc' := 29) (lv' := [(0, .int a0), (1, .int a1)]) (st' := [.int 0]) (h2 := (83, J3, R0 p)) (by rfl) ?_
      have hg := Option.some.inj hg
      subst hg
      exact TT_ret rfl rfl
    · rw [if_neg hc5] at hg
      refine TT_zeq_f (t := 28) rfl rfl hc5 ?_
      refine TT_go 4 (pc' := 18) (lv' := [(0, .int a0), (1, .int a1)]) (st' := [.long 2000, .long 0, .long (Int32.toInt64 a1)]) (h2 := (83, J3, R0 p)) (by rfl) ?_
      cases hq6 : g_X9_in n (Int32.toInt64 a1) 0 2000 J3 with
      | none => rw [hq6] at hg; cases hg
      | some w7 =>
        obtain ⟨r9, J8⟩ := w7
        rw [hq6] at hg
        dsimp only at hg
        refine TT_call (me' := mt_X9_in) (as := [.long (Int32.toInt64 a1), .long 0, .long 2000]) (rest := []) (r1 := some (.int r9)) (h1 := (83, J8, R0 p)) rfl rfl (by rfl) (t_X9_in hq6) ?_
        refine TT_go 0 (pc' := 21) (lv' := [(0, .int a0), (1, .int a1)]) (st' := [.int r9]) (h2 := (83, J8, R0 p)) (by rfl) ?_
        by_cases hc10 : r9 = 0
        · rw [if_pos hc10] at hg
          refine TT_zeq_t (t := 28) rfl rfl hc10 ?_
          refine TT_go 1 (pc' := 29) (lv' := [(0, .int a0), (1, .int a1)]) (st' := [.int 0]) (h2 := (83, J8, R0 p)) (by rfl) ?_
          have hg := Option.some.inj hg
          subst hg
          exact TT_ret rfl rfl
        · rw [if_neg hc10] at hg
          refine TT_zeq_f (t := 28) rfl rfl hc10 ?_
          refine TT_go 2 (pc' := 29) (lv' := [(0, .int a0), (1, .int a1)]) (st' := [.int 1]) (h2 := (83, J8, R0 p)) (by rfl) ?_
          have hg := Option.some.inj hg
          subst hg
          exact TT_ret rfl rfl
def g_X9_night_58 (n : Nat) (k32 : Int32 → Int32 → Int32 → IH → Option (Int32 × IH)) (v3 : Int32) (v5 : Int32) (t0 : Int32) (t1 : Int32) (I : IH) : Option (Int32 × IH) :=
  bnd ((t1 + t0)) fun x21 =>
  bnd (v5 + 1) fun x22 =>
  k32 v3 x21 x22 I
set_option maxRecDepth 20000 in
theorem t_X9_night_58 {p : Nat} {n : Nat} {k32 : Int32 → Int32 → Int32 → IH → Option (Int32 × IH)} (hk32 : ∀ (v3 : Int32) (v4 : Int32) (v5 : Int32) (I : IH) (w : Int32 × IH), k32 v3 v4 v5 I = some w → TT none mt_X9_night 32 [(0, .ref 55), (3, .int v3), (4, .int v4), (5, .int v5)] [] (83, I, R0 p) (some (.int w.1)) (83, w.2, R0 p)) {v3 : Int32} {v5 : Int32} {t0 : Int32} {t1 : Int32} {I : IH} {w : Int32 × IH} (hg : g_X9_night_58 n k32 v3 v5 t0 t1 I = some w) : TT none mt_X9_night 58 [(0, .ref 55), (3, .int v3), (5, .int v5)] [.int t0, .int t1] (83, I, R0 p) (some (.int w.1)) (83, w.2, R0 p) := by
  unfold g_X9_night_58 at hg
  obtain ⟨x21, hx21⟩ : ∃ x : Int32, x = ((t1 + t0)) := ⟨_, rfl⟩
  replace hg := bnd_use hx21 hg
  refine TT_go 2 (pc' := 61) (lv' := [(4, .int x21), (0, .ref 55), (3, .int v3), (5, .int v5)]) (st' := []) (h2 := (83, I, R0 p)) (by subst hx21; rfl) ?_
  obtain ⟨x22, hx22⟩ : ∃ x : Int32, x = (v5 + 1) := ⟨_, rfl⟩
  replace hg := bnd_use hx22 hg
  refine TT_go 1 (pc' := 64) (lv' := [(5, .int x22), (4, .int x21), (0, .ref 55), (3, .int v3)]) (st' := []) (h2 := (83, I, R0 p)) (by subst hx22; rfl) ?_
  refine TT_go 1 (pc' := 32) (lv' := [(5, .int x22), (4, .int x21), (0, .ref 55), (3, .int v3)]) (st' := []) (h2 := (83, I, R0 p)) (by rfl) ?_
  refine TT_sub (lv2 := [(0, .ref 55), (3, .int v3), (4, .int x21), (5, .int x22)]) rfl rfl ⟨rfl, rfl, rfl, rfl, trivial⟩ ?_
  exact hk32 v3 x21 x22 _ _ hg
def g_X9_night_32 : Nat → Int32 → Int32 → Int32 → IH → Option (Int32 × IH)
  | 0, _, _, _, _ => none
  | n + 1, v3, v4, v5, I =>
    if 8 ≤ v5 then
      if v3 = 0 then
        some ((I 55 34), I)
      else
        some (v4, I)
    else
      match g_X9_has1 n (I 55 35) v5 I with
      | none => none
      | some (r19, J18) =>
        if r19 = 0 then
          g_X9_night_58 n (g_X9_night_32 n) v3 v5 0 v4 J18
        else
          g_X9_night_58 n (g_X9_night_32 n) v3 v5 1 v4 J18
set_option maxRecDepth 20000 in
theorem t_X9_night_32 {p : Nat} : ∀ (n : Nat) (v3 : Int32) (v4 : Int32) (v5 : Int32) (I : IH) (w : Int32 × IH), g_X9_night_32 n v3 v4 v5 I = some w → TT none mt_X9_night 32 [(0, .ref 55), (3, .int v3), (4, .int v4), (5, .int v5)] [] (83, I, R0 p) (some (.int w.1)) (83, w.2, R0 p) := by
  intro n
  induction n with
  | zero => intro v3 v4 v5 I w hg; cases hg
  | succ n ih =>
    intro v3 v4 v5 I w hg
    unfold g_X9_night_32 at hg
    refine TT_go 2 (pc' := 36) (lv' := [(0, .ref 55), (3, .int v3), (4, .int v4), (5, .int v5)]) (st' := [.int 8, .int v5]) (h2 := (83, I, R0 p)) (by rfl) ?_
    by_cases hc14 : 8 ≤ v5
    · rw [if_pos hc14] at hg
      refine TT_ige_t (t := 67) rfl rfl hc14 ?_
      refine TT_go 1 (pc' := 68) (lv' := [(0, .ref 55), (3, .int v3), (4, .int v4), (5, .int v5)]) (st' := [.int v3]) (h2 := (83, I, R0 p)) (by rfl) ?_
      by_cases hc15 : v3 = 0
      · rw [if_pos hc15] at hg
        refine TT_zne_f (t := 78) rfl rfl hc15 ?_
        refine TT_go 3 (pc' := 80) (lv' := [(0, .ref 55), (3, .int v3), (4, .int v4), (5, .int v5)]) (st' := [.int (I 55 34)]) (h2 := (83, I, R0 p)) (by rfl) ?_
        have hg := Option.some.inj hg
        subst hg
        exact TT_ret rfl rfl
      · rw [if_neg hc15] at hg
        refine TT_zne_t (t := 78) rfl rfl hc15 ?_
        refine TT_go 1 (pc' := 80) (lv' := [(0, .ref 55), (3, .int v3), (4, .int v4), (5, .int v5)]) (st' := [.int v4]) (h2 := (83, I, R0 p)) (by rfl) ?_
        have hg := Option.some.inj hg
        subst hg
        exact TT_ret rfl rfl
    · rw [if_neg hc14] at hg
      refine TT_ige_f (t := 67) rfl rfl hc14 ?_
      refine TT_go 4 (pc' := 47) (lv' := [(0, .ref 55), (3, .int v3), (4, .int v4), (5, .int v5)]) (st' := [.int v5, .int (I 55 35), .int v4]) (h2 := (83, I, R0 p)) (by rfl) ?_
      cases hq16 : g_X9_has1 n (I 55 35) v5 I with
      | none => rw [hq16] at hg; cases hg
      | some w17 =>
        obtain ⟨r19, J18⟩ := w17
        rw [hq16] at hg
        dsimp only at hg
        refine TT_call (me' := mt_X9_has1) (as := [.int (I 55 35), .int v5]) (rest := [.int v4]) (r1 := some (.int r19)) (h1 := (83, J18, R0 p)) rfl rfl (by rfl) (t_X9_has1 hq16) ?_
        refine TT_go 0 (pc' := 50) (lv' := [(0, .ref 55), (3, .int v3), (4, .int v4), (5, .int v5)]) (st' := [.int r19, .int v4]) (h2 := (83, J18, R0 p)) (by rfl) ?_
        by_cases hc20 : r19 = 0
        · rw [if_pos hc20] at hg
          refine TT_zeq_t (t := 57) rfl rfl hc20 ?_
          refine TT_go 1 (pc' := 58) (lv' := [(0, .ref 55), (3, .int v3), (4, .int v4), (5, .int v5)]) (st' := [.int 0, .int v4]) (h2 := (83, J18, R0 p)) (by rfl) ?_
          refine TT_sub (lv2 := [(0, .ref 55), (3, .int v3), (5, .int v5)]) rfl rfl ⟨rfl, rfl, rfl, trivial⟩ ?_
          exact t_X9_night_58 ih hg
        · rw [if_neg hc20] at hg
          refine TT_zeq_f (t := 57) rfl rfl hc20 ?_
          refine TT_go 2 (pc' := 58) (lv' := [(0, .ref 55), (3, .int v3), (4, .int v4), (5, .int v5)]) (st' := [.int 1, .int v4]) (h2 := (83, J18, R0 p)) (by rfl) ?_
          refine TT_sub (lv2 := [(0, .ref 55), (3, .int v3), (5, .int v5)]) rfl rfl ⟨rfl, rfl, rfl, trivial⟩ ?_
          exact t_X9_night_58 ih hg
def g_X9_night (n : Nat) (a0 : Int32) (a1 : Int32) (a2 : Int32) (I : IH) : Option (Int32 × IH) :=
  match g_X9_isNight n a0 a1 I with
  | none => none
  | some (r4, J3) =>
    if r4 = 0 then
      some ((-1), J3)
    else
      match g_X9_in n (Int32.toInt64 a2) 0 1 J3 with
      | none => none
      | some (r9, J8) =>
        if r9 = 0 then
          some ((-1), J8)
        else
          match g_X9_goNight n a0 a1 J8 with
          | none => none
          | some J13 =>
            g_X9_night_32 n a2 0 0 J13
set_option maxRecDepth 20000 in
theorem t_X9_night {p : Nat} {n : Nat} {a0 : Int32} {a1 : Int32} {a2 : Int32} {I : IH} {w : Int32 × IH} (hg : g_X9_night n a0 a1 a2 I = some w) : TT none mt_X9_night 0 (lv_args 0 [.ref 55, .int a0, .int a1, .int a2]) [] (83, I, R0 p) (some (.int w.1)) (83, w.2, R0 p) := by
  unfold g_X9_night at hg
  refine TT_go 2 (pc' := 2) (lv' := [(0, .ref 55), (1, .int a0), (2, .int a1), (3, .int a2)]) (st' := [.int a1, .int a0]) (h2 := (83, I, R0 p)) (by rfl) ?_
  cases hq1 : g_X9_isNight n a0 a1 I with
  | none => rw [hq1] at hg; cases hg
  | some w2 =>
    obtain ⟨r4, J3⟩ := w2
    rw [hq1] at hg
    dsimp only at hg
    refine TT_call (me' := mt_X9_isNight) (as := [.int a0, .int a1]) (rest := []) (r1 := some (.int r4)) (h1 := (83, J3, R0 p)) rfl rfl (by rfl) (t_X9_isNight hq1) ?_
    refine TT_go 0 (pc' := 5) (lv' := [(0, .ref 55), (1, .int a0), (2, .int a1), (3, .int a2)]) (st' := [.int r4]) (h2 := (83, J3, R0 p)) (by rfl) ?_
    by_cases hc5 : r4 = 0
    · rw [if_pos hc5] at hg
      refine TT_zeq_t (t := 18) rfl rfl hc5 ?_
      refine TT_go 1 (pc' := 19) (lv' := [(0, .ref 55), (1, .int a0), (2, .int a1), (3, .int a2)]) (st' := [.int (-1)]) (h2 := (83, J3, R0 p)) (by rfl) ?_
      have hg := Option.some.inj hg
      subst hg
      exact TT_ret rfl rfl
    · rw [if_neg hc5] at hg
      refine TT_zeq_f (t := 18) rfl rfl hc5 ?_
      refine TT_go 4 (pc' := 12) (lv' := [(0, .ref 55), (1, .int a0), (2, .int a1), (3, .int a2)]) (st' := [.long 1, .long 0, .long (Int32.toInt64 a2)]) (h2 := (83, J3, R0 p)) (by rfl) ?_
      cases hq6 : g_X9_in n (Int32.toInt64 a2) 0 1 J3 with
      | none => rw [hq6] at hg; cases hg
      | some w7 =>
        obtain ⟨r9, J8⟩ := w7
        rw [hq6] at hg
        dsimp only at hg
        refine TT_call (me' := mt_X9_in) (as := [.long (Int32.toInt64 a2), .long 0, .long 1]) (rest := []) (r1 := some (.int r9)) (h1 := (83, J8, R0 p)) rfl rfl (by rfl) (t_X9_in hq6) ?_
        refine TT_go 0 (pc' := 15) (lv' := [(0, .ref 55), (1, .int a0), (2, .int a1), (3, .int a2)]) (st' := [.int r9]) (h2 := (83, J8, R0 p)) (by rfl) ?_
        by_cases hc10 : r9 = 0
        · rw [if_pos hc10] at hg
          refine TT_zne_f (t := 20) rfl rfl hc10 ?_
          refine TT_go 1 (pc' := 19) (lv' := [(0, .ref 55), (1, .int a0), (2, .int a1), (3, .int a2)]) (st' := [.int (-1)]) (h2 := (83, J8, R0 p)) (by rfl) ?_
          have hg := Option.some.inj hg
          subst hg
          exact TT_ret rfl rfl
        · rw [if_neg hc10] at hg
          refine TT_zne_t (t := 20) rfl rfl hc10 ?_
          refine TT_go 3 (pc' := 23) (lv' := [(0, .ref 55), (1, .int a0), (2, .int a1), (3, .int a2)]) (st' := [.int a1, .int a0, .ref 55]) (h2 := (83, J8, R0 p)) (by rfl) ?_
          cases hq11 : g_X9_goNight n a0 a1 J8 with
          | none => rw [hq11] at hg; cases hg
          | some w12 =>
            obtain ⟨J13, hJ13⟩ : ∃ J, J = w12 := ⟨_, rfl⟩
            rw [← hJ13] at hq11
            rw [hq11] at hg
            dsimp only at hg
            refine TT_call (me' := mt_X9_goNight) (as := [.ref 55, .int a0, .int a1]) (rest := []) (r1 := none) (h1 := (83, J13, R0 p)) rfl rfl (by rfl) (t_X9_goNight hq11) ?_
            refine TT_go 4 (pc' := 32) (lv' := [(5, .int 0), (4, .int 0), (0, .ref 55), (1, .int a0), (2, .int a1), (3, .int a2)]) (st' := []) (h2 := (83, J13, R0 p)) (by rfl) ?_
            refine TT_sub (lv2 := [(0, .ref 55), (3, .int a2), (4, .int 0), (5, .int 0)]) rfl rfl ⟨rfl, rfl, rfl, rfl, trivial⟩ ?_
            exact t_X9_night_32 n a2 0 0 _ _ hg
def g_X9_nightHas (n : Nat) (a0 : Int32) (a1 : Int32) (a2 : Int32) (I : IH) : Option (Int32 × IH) :=
  match g_X9_isNight n a0 a1 I with
  | none => none
  | some (r4, J3) =>
    if r4 = 0 then
      some ((-1), J3)
    else
      match g_X9_isHand n a2 J3 with
      | none => none
      | some (r9, J8) =>
        if r9 = 0 then
          some ((-1), J8)
        else
          match g_X9_goNight n a0 a1 J8 with
          | none => none
          | some J13 =>
            match g_X9_hasOf n 1 a2 J13 with
            | none => none
            | some (r17, J16) =>
              some (r17, J16)
set_option maxRecDepth 20000 in
theorem t_X9_nightHas {p : Nat} {n : Nat} {a0 : Int32} {a1 : Int32} {a2 : Int32} {I : IH} {w : Int32 × IH} (hg : g_X9_nightHas n a0 a1 a2 I = some w) : TT none mt_X9_nightHas 0 (lv_args 0 [.ref 55, .int a0, .int a1, .int a2]) [] (83, I, R0 p) (some (.int w.1)) (83, w.2, R0 p) := by
  unfold g_X9_nightHas at hg
  refine TT_go 2 (pc' := 2) (lv' := [(0, .ref 55), (1, .int a0), (2, .int a1), (3, .int a2)]) (st' := [.int a1, .int a0]) (h2 := (83, I, R0 p)) (by rfl) ?_
  cases hq1 : g_X9_isNight n a0 a1 I with
  | none => rw [hq1] at hg; cases hg
  | some w2 =>
    obtain ⟨r4, J3⟩ := w2
    rw [hq1] at hg
    dsimp only at hg
    refine TT_call (me' := mt_X9_isNight) (as := [.int a0, .int a1]) (rest := []) (r1 := some (.int r4)) (h1 := (83, J3, R0 p)) rfl rfl (by rfl) (t_X9_isNight hq1) ?_
    refine TT_go 0 (pc' := 5) (lv' := [(0, .ref 55), (1, .int a0), (2, .int a1), (3, .int a2)]) (st' := [.int r4]) (h2 := (83, J3, R0 p)) (by rfl) ?_
    by_cases hc5 : r4 = 0
    · rw [if_pos hc5] at hg
      refine TT_zeq_t (t := 15) rfl rfl hc5 ?_
      refine TT_go 1 (pc' := 16) (lv' := [(0, .ref 55), (1, .int a0), (2, .int a1), (3, .int a2)]) (st' := [.int (-1)]) (h2 := (83, J3, R0 p)) (by rfl) ?_
      have hg := Option.some.inj hg
      subst hg
      exact TT_ret rfl rfl
    · rw [if_neg hc5] at hg
      refine TT_zeq_f (t := 15) rfl rfl hc5 ?_
      refine TT_go 1 (pc' := 9) (lv' := [(0, .ref 55), (1, .int a0), (2, .int a1), (3, .int a2)]) (st' := [.int a2]) (h2 := (83, J3, R0 p)) (by rfl) ?_
      cases hq6 : g_X9_isHand n a2 J3 with
      | none => rw [hq6] at hg; cases hg
      | some w7 =>
        obtain ⟨r9, J8⟩ := w7
        rw [hq6] at hg
        dsimp only at hg
        refine TT_call (me' := mt_X9_isHand) (as := [.int a2]) (rest := []) (r1 := some (.int r9)) (h1 := (83, J8, R0 p)) rfl rfl (by rfl) (t_X9_isHand hq6) ?_
        refine TT_go 0 (pc' := 12) (lv' := [(0, .ref 55), (1, .int a0), (2, .int a1), (3, .int a2)]) (st' := [.int r9]) (h2 := (83, J8, R0 p)) (by rfl) ?_
        by_cases hc10 : r9 = 0
        · rw [if_pos hc10] at hg
          refine TT_zne_f (t := 17) rfl rfl hc10 ?_
          refine TT_go 1 (pc' := 16) (lv' := [(0, .ref 55), (1, .int a0), (2, .int a1), (3, .int a2)]) (st' := [.int (-1)]) (h2 := (83, J8, R0 p)) (by rfl) ?_
          have hg := Option.some.inj hg
          subst hg
          exact TT_ret rfl rfl
        · rw [if_neg hc10] at hg
          refine TT_zne_t (t := 17) rfl rfl hc10 ?_
          refine TT_go 3 (pc' := 20) (lv' := [(0, .ref 55), (1, .int a0), (2, .int a1), (3, .int a2)]) (st' := [.int a1, .int a0, .ref 55]) (h2 := (83, J8, R0 p)) (by rfl) ?_
          cases hq11 : g_X9_goNight n a0 a1 J8 with
          | none => rw [hq11] at hg; cases hg
          | some w12 =>
            obtain ⟨J13, hJ13⟩ : ∃ J, J = w12 := ⟨_, rfl⟩
            rw [← hJ13] at hq11
            rw [hq11] at hg
            dsimp only at hg
            refine TT_call (me' := mt_X9_goNight) (as := [.ref 55, .int a0, .int a1]) (rest := []) (r1 := none) (h1 := (83, J13, R0 p)) rfl rfl (by rfl) (t_X9_goNight hq11) ?_
            refine TT_go 3 (pc' := 26) (lv' := [(0, .ref 55), (1, .int a0), (2, .int a1), (3, .int a2)]) (st' := [.int a2, .int 1, .ref 55]) (h2 := (83, J13, R0 p)) (by rfl) ?_
            cases hq14 : g_X9_hasOf n 1 a2 J13 with
            | none => rw [hq14] at hg; cases hg
            | some w15 =>
              obtain ⟨r17, J16⟩ := w15
              rw [hq14] at hg
              dsimp only at hg
              refine TT_call (me' := mt_X9_hasOf) (as := [.ref 55, .int 1, .int a2]) (rest := []) (r1 := some (.int r17)) (h1 := (83, J16, R0 p)) rfl rfl (by rfl) (t_X9_hasOf hq14) ?_
              refine TT_go 0 (pc' := 29) (lv' := [(0, .ref 55), (1, .int a0), (2, .int a1), (3, .int a2)]) (st' := [.int r17]) (h2 := (83, J16, R0 p)) (by rfl) ?_
              have hg := Option.some.inj hg
              subst hg
              exact TT_ret rfl rfl
def g_X9_copyCounts_14 : Nat → Int32 → Int32 → Int32 → IH → Option (IH)
  | 0, _, _, _, _ => none
  | n + 1, v1, v2, v3, I =>
    if 36 ≤ v3 then
      some I
    else
      if inB ((36 * v1) + v3) 108 = true then
        bnd (I 78 (Int32.toNatClampNeg ((36 * v1) + v3))) fun x7 =>
        if inB ((36 * v2) + v3) 108 = true then
          bnd (up2 I 78 (Int32.toNatClampNeg ((36 * v2) + v3)) x7) fun J9 =>
          bnd (v3 + 1) fun x10 =>
          g_X9_copyCounts_14 n v1 v2 x10 J9
        else none
      else none
set_option maxRecDepth 20000 in
theorem t_X9_copyCounts_14 {p : Nat} : ∀ (n : Nat) (v1 : Int32) (v2 : Int32) (v3 : Int32) (I : IH) (w : IH), g_X9_copyCounts_14 n v1 v2 v3 I = some w → TT none mt_X9_copyCounts 14 [(0, .ref 55), (1, .int v1), (2, .int v2), (3, .int v3)] [] (83, I, R0 p) none (83, w, R0 p) := by
  intro n
  induction n with
  | zero => intro v1 v2 v3 I w hg; cases hg
  | succ n ih =>
    intro v1 v2 v3 I w hg
    unfold g_X9_copyCounts_14 at hg
    refine TT_go 2 (pc' := 17) (lv' := [(0, .ref 55), (1, .int v1), (2, .int v2), (3, .int v3)]) (st' := [.int 36, .int v3]) (h2 := (83, I, R0 p)) (by rfl) ?_
    by_cases hc5 : 36 ≤ v3
    · rw [if_pos hc5] at hg
      refine TT_ige_t (t := 48) rfl rfl hc5 ?_
      refine TT_go 0 (pc' := 48) (lv' := [(0, .ref 55), (1, .int v1), (2, .int v2), (3, .int v3)]) (st' := []) (h2 := (83, I, R0 p)) (by rfl) ?_
      have hg := Option.some.inj hg
      subst hg
      exact TT_ret rfl rfl
    · rw [if_neg hc5] at hg
      refine TT_ige_f (t := 48) rfl rfl hc5 ?_
      refine TT_go 14 (pc' := 40) (lv' := [(0, .ref 55), (1, .int v1), (2, .int v2), (3, .int v3)]) (st' := [.int ((36 * v1) + v3), .ref 78, .int ((36 * v2) + v3), .ref 78]) (h2 := (83, I, R0 p)) (by rfl) ?_
      by_cases hb6 : inB ((36 * v1) + v3) 108 = true
      rotate_left
      · rw [if_neg hb6] at hg; cases hg
      rw [if_pos hb6] at hg
      refine TT_iald (n := 108) rfl (by rfl) hb6 ?_
      obtain ⟨x7, hx7⟩ : ∃ x : Int32, x = (I 78 (Int32.toNatClampNeg ((36 * v1) + v3))) := ⟨_, rfl⟩
      replace hg := bnd_use hx7 hg
      refine TT_go 0 (pc' := 41) (lv' := [(0, .ref 55), (1, .int v1), (2, .int v2), (3, .int v3)]) (st' := [.int x7, .int ((36 * v2) + v3), .ref 78]) (h2 := (83, I, R0 p)) (by subst hx7; rfl) ?_
      by_cases hb8 : inB ((36 * v2) + v3) 108 = true
      rotate_left
      · rw [if_neg hb8] at hg; cases hg
      rw [if_pos hb8] at hg
      refine TT_iast (n := 108) rfl (by rfl) hb8 ?_
      obtain ⟨J9, hJ9⟩ : ∃ x : IH, x = (up2 I 78 (Int32.toNatClampNeg ((36 * v2) + v3)) x7) := ⟨_, rfl⟩
      replace hg := bnd_use hJ9 hg
      refine TT_go 0 (pc' := 42) (lv' := [(0, .ref 55), (1, .int v1), (2, .int v2), (3, .int v3)]) (st' := []) (h2 := (83, J9, R0 p)) (by subst hJ9; rfl) ?_
      obtain ⟨x10, hx10⟩ : ∃ x : Int32, x = (v3 + 1) := ⟨_, rfl⟩
      replace hg := bnd_use hx10 hg
      refine TT_go 1 (pc' := 45) (lv' := [(3, .int x10), (0, .ref 55), (1, .int v1), (2, .int v2)]) (st' := []) (h2 := (83, J9, R0 p)) (by subst hx10; rfl) ?_
      refine TT_go 1 (pc' := 14) (lv' := [(3, .int x10), (0, .ref 55), (1, .int v1), (2, .int v2)]) (st' := []) (h2 := (83, J9, R0 p)) (by rfl) ?_
      refine TT_sub (lv2 := [(0, .ref 55), (1, .int v1), (2, .int v2), (3, .int x10)]) rfl rfl ⟨rfl, rfl, rfl, rfl, trivial⟩ ?_
      exact ih v1 v2 x10 _ _ hg
def g_X9_copyCounts (n : Nat) (a0 : Int32) (a1 : Int32) (I : IH) : Option (IH) :=
  if inB a0 3 = true then
    bnd (I 77 (Int32.toNatClampNeg a0)) fun x2 =>
    if inB a1 3 = true then
      bnd (up2 I 77 (Int32.toNatClampNeg a1) x2) fun J4 =>
      g_X9_copyCounts_14 n a0 a1 0 J4
    else none
  else none
set_option maxRecDepth 20000 in
theorem t_X9_copyCounts {p : Nat} {n : Nat} {a0 : Int32} {a1 : Int32} {I : IH} {w : IH} (hg : g_X9_copyCounts n a0 a1 I = some w) : TT none mt_X9_copyCounts 0 (lv_args 0 [.ref 55, .int a0, .int a1]) [] (83, I, R0 p) none (83, w, R0 p) := by
  unfold g_X9_copyCounts at hg
  refine TT_go 6 (pc' := 10) (lv' := [(0, .ref 55), (1, .int a0), (2, .int a1)]) (st' := [.int a0, .ref 77, .int a1, .ref 77]) (h2 := (83, I, R0 p)) (by rfl) ?_
  by_cases hb1 : inB a0 3 = true
  rotate_left
  · rw [if_neg hb1] at hg; cases hg
  rw [if_pos hb1] at hg
  refine TT_iald (n := 3) rfl (by rfl) hb1 ?_
  obtain ⟨x2, hx2⟩ : ∃ x : Int32, x = (I 77 (Int32.toNatClampNeg a0)) := ⟨_, rfl⟩
  replace hg := bnd_use hx2 hg
  refine TT_go 0 (pc' := 11) (lv' := [(0, .ref 55), (1, .int a0), (2, .int a1)]) (st' := [.int x2, .int a1, .ref 77]) (h2 := (83, I, R0 p)) (by subst hx2; rfl) ?_
  by_cases hb3 : inB a1 3 = true
  rotate_left
  · rw [if_neg hb3] at hg; cases hg
  rw [if_pos hb3] at hg
  refine TT_iast (n := 3) rfl (by rfl) hb3 ?_
  obtain ⟨J4, hJ4⟩ : ∃ x : IH, x = (up2 I 77 (Int32.toNatClampNeg a1) x2) := ⟨_, rfl⟩
  replace hg := bnd_use hJ4 hg
  refine TT_go 0 (pc' := 12) (lv' := [(0, .ref 55), (1, .int a0), (2, .int a1)]) (st' := []) (h2 := (83, J4, R0 p)) (by subst hJ4; rfl) ?_
  refine TT_go 2 (pc' := 14) (lv' := [(3, .int 0), (0, .ref 55), (1, .int a0), (2, .int a1)]) (st' := []) (h2 := (83, J4, R0 p)) (by rfl) ?_
  refine TT_sub (lv2 := [(0, .ref 55), (1, .int a0), (2, .int a1), (3, .int 0)]) rfl rfl ⟨rfl, rfl, rfl, rfl, trivial⟩ ?_
  exact t_X9_copyCounts_14 n a0 a1 0 _ _ hg
def g_X9_keep (n : Nat) (I : IH) : Option (Int32 × IH) :=
  if (I 55 24) = 2 then
    some ((-3), I)
  else
    bnd (up2 I 55 24 ((I 55 24) + 1)) fun J2 =>
    match g_X9_copy n 0 (1 + (J2 55 24)) J2 with
    | none => none
    | some J5 =>
      match g_X9_copyCounts n 0 (J5 55 24) J5 with
      | none => none
      | some J8 =>
        some ((J8 55 24), J8)
set_option maxRecDepth 20000 in
theorem t_X9_keep {p : Nat} {n : Nat} {I : IH} {w : Int32 × IH} (hg : g_X9_keep n I = some w) : TT none mt_X9_keep 0 (lv_args 0 [.ref 55]) [] (83, I, R0 p) (some (.int w.1)) (83, w.2, R0 p) := by
  unfold g_X9_keep at hg
  refine TT_go 3 (pc' := 5) (lv' := [(0, .ref 55)]) (st' := [.int 2, .int (I 55 24)]) (h2 := (83, I, R0 p)) (by rfl) ?_
  by_cases hc1 : (I 55 24) = 2
  · rw [if_pos hc1] at hg
    refine TT_ine_f (t := 11) rfl rfl hc1 ?_
    refine TT_go 1 (pc' := 10) (lv' := [(0, .ref 55)]) (st' := [.int (-3)]) (h2 := (83, I, R0 p)) (by rfl) ?_
    have hg := Option.some.inj hg
    subst hg
    exact TT_ret rfl rfl
  · rw [if_neg hc1] at hg
    refine TT_ine_t (t := 11) rfl rfl hc1 ?_
    obtain ⟨J2, hJ2⟩ : ∃ x : IH, x = (up2 I 55 24 ((I 55 24) + 1)) := ⟨_, rfl⟩
    replace hg := bnd_use hJ2 hg
    refine TT_go 6 (pc' := 21) (lv' := [(0, .ref 55)]) (st' := []) (h2 := (83, J2, R0 p)) (by subst hJ2; rfl) ?_
    refine TT_go 6 (pc' := 29) (lv' := [(0, .ref 55)]) (st' := [.int (1 + (J2 55 24)), .int 0, .ref 55]) (h2 := (83, J2, R0 p)) (by rfl) ?_
    cases hq3 : g_X9_copy n 0 (1 + (J2 55 24)) J2 with
    | none => rw [hq3] at hg; cases hg
    | some w4 =>
      obtain ⟨J5, hJ5⟩ : ∃ J, J = w4 := ⟨_, rfl⟩
      rw [← hJ5] at hq3
      rw [hq3] at hg
      dsimp only at hg
      refine TT_call (me' := mt_X9_copy) (as := [.ref 55, .int 0, .int (1 + (J2 55 24))]) (rest := []) (r1 := none) (h1 := (83, J5, R0 p)) rfl rfl (by rfl) (t_X9_copy hq3) ?_
      refine TT_go 4 (pc' := 38) (lv' := [(0, .ref 55)]) (st' := [.int (J5 55 24), .int 0, .ref 55]) (h2 := (83, J5, R0 p)) (by rfl) ?_
      cases hq6 : g_X9_copyCounts n 0 (J5 55 24) J5 with
      | none => rw [hq6] at hg; cases hg
      | some w7 =>
        obtain ⟨J8, hJ8⟩ : ∃ J, J = w7 := ⟨_, rfl⟩
        rw [← hJ8] at hq6
        rw [hq6] at hg
        dsimp only at hg
        refine TT_call (me' := mt_X9_copyCounts) (as := [.ref 55, .int 0, .int (J5 55 24)]) (rest := []) (r1 := none) (h1 := (83, J8, R0 p)) rfl rfl (by rfl) (t_X9_copyCounts hq6) ?_
        refine TT_go 2 (pc' := 45) (lv' := [(0, .ref 55)]) (st' := [.int (J8 55 24)]) (h2 := (83, J8, R0 p)) (by rfl) ?_
        have hg := Option.some.inj hg
        subst hg
        exact TT_ret rfl rfl
def g_X9_back (n : Nat) (I : IH) : Option (Int32 × IH) :=
  if (I 55 24) = 0 then
    some ((-2), I)
  else
    match g_X9_copy n (1 + (I 55 24)) 0 I with
    | none => none
    | some J4 =>
      match g_X9_copyCounts n (J4 55 24) 0 J4 with
      | none => none
      | some J7 =>
        bnd (up2 J7 55 24 ((J7 55 24) - 1)) fun J8 =>
        bnd (up2 J8 55 25 0) fun J9 =>
        some ((J9 55 24), J9)
set_option maxRecDepth 20000 in
theorem t_X9_back {p : Nat} {n : Nat} {I : IH} {w : Int32 × IH} (hg : g_X9_back n I = some w) : TT none mt_X9_back 0 (lv_args 0 [.ref 55]) [] (83, I, R0 p) (some (.int w.1)) (83, w.2, R0 p) := by
  unfold g_X9_back at hg
  refine TT_go 2 (pc' := 4) (lv' := [(0, .ref 55)]) (st' := [.int (I 55 24)]) (h2 := (83, I, R0 p)) (by rfl) ?_
  by_cases hc1 : (I 55 24) = 0
  · rw [if_pos hc1] at hg
    refine TT_zne_f (t := 10) rfl rfl hc1 ?_
    refine TT_go 1 (pc' := 9) (lv' := [(0, .ref 55)]) (st' := [.int (-2)]) (h2 := (83, I, R0 p)) (by rfl) ?_
    have hg := Option.some.inj hg
    subst hg
    exact TT_ret rfl rfl
  · rw [if_neg hc1] at hg
    refine TT_zne_t (t := 10) rfl rfl hc1 ?_
    refine TT_go 6 (pc' := 18) (lv' := [(0, .ref 55)]) (st' := [.int 0, .int (1 + (I 55 24)), .ref 55]) (h2 := (83, I, R0 p)) (by rfl) ?_
    cases hq2 : g_X9_copy n (1 + (I 55 24)) 0 I with
    | none => rw [hq2] at hg; cases hg
    | some w3 =>
      obtain ⟨J4, hJ4⟩ : ∃ J, J = w3 := ⟨_, rfl⟩
      rw [← hJ4] at hq2
      rw [hq2] at hg
      dsimp only at hg
      refine TT_call (me' := mt_X9_copy) (as := [.ref 55, .int (1 + (I 55 24)), .int 0]) (rest := []) (r1 := none) (h1 := (83, J4, R0 p)) rfl rfl (by rfl) (t_X9_copy hq2) ?_
      refine TT_go 4 (pc' := 27) (lv' := [(0, .ref 55)]) (st' := [.int 0, .int (J4 55 24), .ref 55]) (h2 := (83, J4, R0 p)) (by rfl) ?_
      cases hq5 : g_X9_copyCounts n (J4 55 24) 0 J4 with
      | none => rw [hq5] at hg; cases hg
      | some w6 =>
        obtain ⟨J7, hJ7⟩ : ∃ J, J = w6 := ⟨_, rfl⟩
        rw [← hJ7] at hq5
        rw [hq5] at hg
        dsimp only at hg
        refine TT_call (me' := mt_X9_copyCounts) (as := [.ref 55, .int (J4 55 24), .int 0]) (rest := []) (r1 := none) (h1 := (83, J7, R0 p)) rfl rfl (by rfl) (t_X9_copyCounts hq5) ?_
        obtain ⟨J8, hJ8⟩ : ∃ x : IH, x = (up2 J7 55 24 ((J7 55 24) - 1)) := ⟨_, rfl⟩
        replace hg := bnd_use hJ8 hg
        refine TT_go 6 (pc' := 40) (lv' := [(0, .ref 55)]) (st' := []) (h2 := (83, J8, R0 p)) (by subst hJ8; rfl) ?_
        obtain ⟨J9, hJ9⟩ : ∃ x : IH, x = (up2 J8 55 25 0) := ⟨_, rfl⟩
        replace hg := bnd_use hJ9 hg
        refine TT_go 3 (pc' := 45) (lv' := [(0, .ref 55)]) (st' := []) (h2 := (83, J9, R0 p)) (by subst hJ9; rfl) ?_
        refine TT_go 2 (pc' := 49) (lv' := [(0, .ref 55)]) (st' := [.int (J9 55 24)]) (h2 := (83, J9, R0 p)) (by rfl) ?_
        have hg := Option.some.inj hg
        subst hg
        exact TT_ret rfl rfl
def g_X9_count (n : Nat) (a0 : Int32) (I : IH) : Option (Int32 × IH) :=
  if a0 = 0 then
    bnd (I 57 0) fun x2 =>
    some (x2, I)
  else if a0 = 1 then
    bnd (I 68 0) fun x4 =>
    some (x4, I)
  else if a0 = 2 then
    bnd (I 65 0) fun x6 =>
    some (x6, I)
  else if a0 = 3 then
    bnd (I 76 0) fun x8 =>
    some (x8, I)
  else if a0 = 4 then
    some ((I 55 25), I)
  else if a0 = 5 then
    bnd (I 77 0) fun x11 =>
    some (x11, I)
  else if a0 = 6 then
    some ((I 55 0), I)
  else if a0 = 7 then
    some ((I 55 24), I)
  else
    some ((-1), I)
set_option maxRecDepth 20000 in
theorem t_X9_count {p : Nat} {n : Nat} {a0 : Int32} {I : IH} {w : Int32 × IH} (hg : g_X9_count n a0 I = some w) : TT none mt_X9_count 0 (lv_args 0 [.ref 55, .int a0]) [] (83, I, R0 p) (some (.int w.1)) (83, w.2, R0 p) := by
  unfold g_X9_count at hg
  refine TT_go 1 (pc' := 1) (lv' := [(0, .ref 55), (1, .int a0)]) (st' := [.int a0]) (h2 := (83, I, R0 p)) (by rfl) ?_
  by_cases hc1 : a0 = 0
  · rw [if_pos hc1] at hg
    refine TT_tin (t := 48) (off := 47) rfl (by rw [hc1]; decide) (by rw [hc1]; rfl) rfl ?_
    obtain ⟨x2, hx2⟩ : ∃ x : Int32, x = (I 57 0) := ⟨_, rfl⟩
    replace hg := bnd_use hx2 hg
    refine TT_go 4 (pc' := 54) (lv' := [(0, .ref 55), (1, .int a0)]) (st' := [.int x2]) (h2 := (83, I, R0 p)) (by subst hx2; rfl) ?_
    have hg := Option.some.inj hg
    subst hg
    exact TT_ret rfl rfl
  rw [if_neg hc1] at hg
  by_cases hc3 : a0 = 1
  · rw [if_pos hc3] at hg
    refine TT_tin (t := 55) (off := 54) rfl (by rw [hc3]; decide) (by rw [hc3]; rfl) rfl ?_
    obtain ⟨x4, hx4⟩ : ∃ x : Int32, x = (I 68 0) := ⟨_, rfl⟩
    replace hg := bnd_use hx4 hg
    refine TT_go 4 (pc' := 61) (lv' := [(0, .ref 55), (1, .int a0)]) (st' := [.int x4]) (h2 := (83, I, R0 p)) (by subst hx4; rfl) ?_
    have hg := Option.some.inj hg
    subst hg
    exact TT_ret rfl rfl
  rw [if_neg hc3] at hg
  by_cases hc5 : a0 = 2
  · rw [if_pos hc5] at hg
    refine TT_tin (t := 62) (off := 61) rfl (by rw [hc5]; decide) (by rw [hc5]; rfl) rfl ?_
    obtain ⟨x6, hx6⟩ : ∃ x : Int32, x = (I 65 0) := ⟨_, rfl⟩
    replace hg := bnd_use hx6 hg
    refine TT_go 4 (pc' := 68) (lv' := [(0, .ref 55), (1, .int a0)]) (st' := [.int x6]) (h2 := (83, I, R0 p)) (by subst hx6; rfl) ?_
    have hg := Option.some.inj hg
    subst hg
    exact TT_ret rfl rfl
  rw [if_neg hc5] at hg
  by_cases hc7 : a0 = 3
  · rw [if_pos hc7] at hg
    refine TT_tin (t := 69) (off := 68) rfl (by rw [hc7]; decide) (by rw [hc7]; rfl) rfl ?_
    obtain ⟨x8, hx8⟩ : ∃ x : Int32, x = (I 76 0) := ⟨_, rfl⟩
    replace hg := bnd_use hx8 hg
    refine TT_go 4 (pc' := 75) (lv' := [(0, .ref 55), (1, .int a0)]) (st' := [.int x8]) (h2 := (83, I, R0 p)) (by subst hx8; rfl) ?_
    have hg := Option.some.inj hg
    subst hg
    exact TT_ret rfl rfl
  rw [if_neg hc7] at hg
  by_cases hc9 : a0 = 4
  · rw [if_pos hc9] at hg
    refine TT_tin (t := 76) (off := 75) rfl (by rw [hc9]; decide) (by rw [hc9]; rfl) rfl ?_
    refine TT_go 2 (pc' := 80) (lv' := [(0, .ref 55), (1, .int a0)]) (st' := [.int (I 55 25)]) (h2 := (83, I, R0 p)) (by rfl) ?_
    have hg := Option.some.inj hg
    subst hg
    exact TT_ret rfl rfl
  rw [if_neg hc9] at hg
  by_cases hc10 : a0 = 5
  · rw [if_pos hc10] at hg
    refine TT_tin (t := 81) (off := 80) rfl (by rw [hc10]; decide) (by rw [hc10]; rfl) rfl ?_
    obtain ⟨x11, hx11⟩ : ∃ x : Int32, x = (I 77 0) := ⟨_, rfl⟩
    replace hg := bnd_use hx11 hg
    refine TT_go 4 (pc' := 87) (lv' := [(0, .ref 55), (1, .int a0)]) (st' := [.int x11]) (h2 := (83, I, R0 p)) (by subst hx11; rfl) ?_
    have hg := Option.some.inj hg
    subst hg
    exact TT_ret rfl rfl
  rw [if_neg hc10] at hg
  by_cases hc12 : a0 = 6
  · rw [if_pos hc12] at hg
    refine TT_tin (t := 88) (off := 87) rfl (by rw [hc12]; decide) (by rw [hc12]; rfl) rfl ?_
    refine TT_go 2 (pc' := 92) (lv' := [(0, .ref 55), (1, .int a0)]) (st' := [.int (I 55 0)]) (h2 := (83, I, R0 p)) (by rfl) ?_
    have hg := Option.some.inj hg
    subst hg
    exact TT_ret rfl rfl
  rw [if_neg hc12] at hg
  by_cases hc13 : a0 = 7
  · rw [if_pos hc13] at hg
    refine TT_tin (t := 93) (off := 92) rfl (by rw [hc13]; decide) (by rw [hc13]; rfl) rfl ?_
    refine TT_go 2 (pc' := 97) (lv' := [(0, .ref 55), (1, .int a0)]) (st' := [.int (I 55 24)]) (h2 := (83, I, R0 p)) (by rfl) ?_
    have hg := Option.some.inj hg
    subst hg
    exact TT_ret rfl rfl
  rw [if_neg hc13] at hg
  refine TT_tout (t := 98) rfl (by have e0 := lv_neT (a := 0) hc1 (by decide); have e1 := lv_neT (a := 1) hc3 (by decide); have e2 := lv_neT (a := 2) hc5 (by decide); have e3 := lv_neT (a := 3) hc7 (by decide); have e4 := lv_neT (a := 4) hc9 (by decide); have e5 := lv_neT (a := 5) hc10 (by decide); have e6 := lv_neT (a := 6) hc12 (by decide); have e7 := lv_neT (a := 7) hc13 (by decide); omega) rfl ?_
  refine TT_go 1 (pc' := 99) (lv' := [(0, .ref 55), (1, .int a0)]) (st' := [.int (-1)]) (h2 := (83, I, R0 p)) (by rfl) ?_
  have hg := Option.some.inj hg
  subst hg
  exact TT_ret rfl rfl
