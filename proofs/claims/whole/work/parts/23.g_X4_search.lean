/-! Written by wip/whole/gen20.py. -/
def g_X4_search_109 (n : Nat) (q : Nat) (k56 : Int32 → Int32 → Int32 → Int32 → IH → Option (IH)) (v4 : Int32) (v5 : Int32) (v6 : Int32) (v7 : Int32) (I : IH) : Option (IH) :=
  match g_X4_stepRow n (I q 0) v4 I with
  | none => none
  | some J14 =>
    bnd (v7 + 1) fun x15 =>
    k56 v4 v5 v6 x15 J14
set_option maxRecDepth 20000 in
theorem t_X4_search_109 {q : Nat} (hq : q = 5 ∨ q = 18) {p : Nat} {n : Nat} {k56 : Int32 → Int32 → Int32 → Int32 → IH → Option (IH)} (hk56 : ∀ (v4 : Int32) (v5 : Int32) (v6 : Int32) (v7 : Int32) (I : IH) (w : IH), k56 v4 v5 v6 v7 I = some w → TT none mt_X4_search 56 [(0, .ref 44), (1, .ref q), (2, .ref 31), (3, .ref 33), (4, .int v4), (5, .int v5), (6, .int v6), (7, .int v7)] [] (83, I, R0 p) none (83, w, R0 p)) {v4 : Int32} {v5 : Int32} {v6 : Int32} {v7 : Int32} {I : IH} {w : IH} (hg : g_X4_search_109 n q k56 v4 v5 v6 v7 I = some w) : TT none mt_X4_search 109 [(0, .ref 44), (1, .ref q), (2, .ref 31), (3, .ref 33), (4, .int v4), (5, .int v5), (6, .int v6), (7, .int v7)] [] (83, I, R0 p) none (83, w, R0 p) := by
  unfold g_X4_search_109 at hg
  refine TT_go 4 (pc' := 116) (lv' := [(0, .ref 44), (1, .ref q), (2, .ref 31), (3, .ref 33), (4, .int v4), (5, .int v5), (6, .int v6), (7, .int v7)]) (st' := [.int v4, .int (I q 0), .ref 44]) (h2 := (83, I, R0 p)) (by rcases hq with rfl | rfl <;> rfl) ?_
  cases hq12 : g_X4_stepRow n (I q 0) v4 I with
  | none => rw [hq12] at hg; cases hg
  | some w13 =>
    obtain ⟨J14, hJ14⟩ : ∃ J, J = w13 := ⟨_, rfl⟩
    rw [← hJ14] at hq12
    rw [hq12] at hg
    dsimp only at hg
    refine TT_call (me' := mt_X4_stepRow) (as := [.ref 44, .int (I q 0), .int v4]) (rest := []) (r1 := none) (h1 := (83, J14, R0 p)) rfl rfl (by rcases hq with rfl | rfl <;> rfl) (t_X4_stepRow hq12) ?_
    obtain ⟨x15, hx15⟩ : ∃ x : Int32, x = (v7 + 1) := ⟨_, rfl⟩
    replace hg := bnd_use hx15 hg
    refine TT_go 1 (pc' := 122) (lv' := [(7, .int x15), (0, .ref 44), (1, .ref q), (2, .ref 31), (3, .ref 33), (4, .int v4), (5, .int v5), (6, .int v6)]) (st' := []) (h2 := (83, J14, R0 p)) (by subst hx15; rcases hq with rfl | rfl <;> rfl) ?_
    refine TT_go 1 (pc' := 56) (lv' := [(7, .int x15), (0, .ref 44), (1, .ref q), (2, .ref 31), (3, .ref 33), (4, .int v4), (5, .int v5), (6, .int v6)]) (st' := []) (h2 := (83, J14, R0 p)) (by rcases hq with rfl | rfl <;> rfl) ?_
    refine TT_sub (lv2 := [(0, .ref 44), (1, .ref q), (2, .ref 31), (3, .ref 33), (4, .int v4), (5, .int v5), (6, .int v6), (7, .int x15)]) rfl rfl ⟨rfl, rfl, rfl, rfl, rfl, rfl, rfl, rfl, trivial⟩ ?_
    exact hk56 v4 v5 v6 x15 _ _ hg
def g_X4_search_56 (q : Nat) : Nat → Int32 → Int32 → Int32 → Int32 → IH → Option (IH)
  | 0, _, _, _, _, _ => none
  | n + 1, v4, v5, v6, v7, I =>
    if v6 ≤ v7 then
      some I
    else
      match g_X5_copyFrom n 33 31 I with
      | none => none
      | some J6 =>
        match g_X4_stoodBy n q v4 v5 J6 with
        | none => none
        | some (r10, J9) =>
          if (J9 44 2) ≤ r10 then
            g_X4_search_109 n q (g_X4_search_56 q n) v4 v5 v6 v7 J9
          else
            bnd (up2 J9 44 2 r10) fun J16 =>
            bnd (cpyH J16 45 46 0 0 3) fun J17 =>
            g_X4_search_109 n q (g_X4_search_56 q n) v4 v5 v6 v7 J17
set_option maxRecDepth 20000 in
theorem t_X4_search_56 {q : Nat} (hq : q = 5 ∨ q = 18) {p : Nat} : ∀ (n : Nat) (v4 : Int32) (v5 : Int32) (v6 : Int32) (v7 : Int32) (I : IH) (w : IH), g_X4_search_56 q n v4 v5 v6 v7 I = some w → TT none mt_X4_search 56 [(0, .ref 44), (1, .ref q), (2, .ref 31), (3, .ref 33), (4, .int v4), (5, .int v5), (6, .int v6), (7, .int v7)] [] (83, I, R0 p) none (83, w, R0 p) := by
  intro n
  induction n with
  | zero => intro v4 v5 v6 v7 I w hg; cases hg
  | succ n ih =>
    intro v4 v5 v6 v7 I w hg
    unfold g_X4_search_56 at hg
    refine TT_go 2 (pc' := 60) (lv' := [(0, .ref 44), (1, .ref q), (2, .ref 31), (3, .ref 33), (4, .int v4), (5, .int v5), (6, .int v6), (7, .int v7)]) (st' := [.int v6, .int v7]) (h2 := (83, I, R0 p)) (by rcases hq with rfl | rfl <;> rfl) ?_
    by_cases hc3 : v6 ≤ v7
    · rw [if_pos hc3] at hg
      refine TT_ige_t (t := 125) rfl rfl hc3 ?_
      refine TT_go 0 (pc' := 125) (lv' := [(0, .ref 44), (1, .ref q), (2, .ref 31), (3, .ref 33), (4, .int v4), (5, .int v5), (6, .int v6), (7, .int v7)]) (st' := []) (h2 := (83, I, R0 p)) (by rcases hq with rfl | rfl <;> rfl) ?_
      have hg := Option.some.inj hg
      subst hg
      exact TT_ret rfl rfl
    · rw [if_neg hc3] at hg
      refine TT_ige_f (t := 125) rfl rfl hc3 ?_
      refine TT_go 2 (pc' := 65) (lv' := [(0, .ref 44), (1, .ref q), (2, .ref 31), (3, .ref 33), (4, .int v4), (5, .int v5), (6, .int v6), (7, .int v7)]) (st' := [.ref 31, .ref 33]) (h2 := (83, I, R0 p)) (by rcases hq with rfl | rfl <;> rfl) ?_
      cases hq4 : g_X5_copyFrom n 33 31 I with
      | none => rw [hq4] at hg; cases hg
      | some w5 =>
        obtain ⟨J6, hJ6⟩ : ∃ J, J = w5 := ⟨_, rfl⟩
        rw [← hJ6] at hq4
        rw [hq4] at hg
        dsimp only at hg
        refine TT_call (me' := mt_X5_copyFrom) (as := [.ref 33, .ref 31]) (rest := []) (r1 := none) (h1 := (83, J6, R0 p)) rfl rfl (by rcases hq with rfl | rfl <;> rfl) (t_X5_copyFrom (Or.inr (Or.inl rfl)) (Or.inl rfl) hq4) ?_
        refine TT_go 5 (pc' := 75) (lv' := [(0, .ref 44), (1, .ref q), (2, .ref 31), (3, .ref 33), (4, .int v4), (5, .int v5), (6, .int v6), (7, .int v7)]) (st' := [.int v5, .int v4, .ref 33, .ref q, .ref 44]) (h2 := (83, J6, R0 p)) (by rcases hq with rfl | rfl <;> rfl) ?_
        cases hq7 : g_X4_stoodBy n q v4 v5 J6 with
        | none => rw [hq7] at hg; cases hg
        | some w8 =>
          obtain ⟨r10, J9⟩ := w8
          rw [hq7] at hg
          dsimp only at hg
          refine TT_call (me' := mt_X4_stoodBy) (as := [.ref 44, .ref q, .ref 33, .int v4, .int v5]) (rest := []) (r1 := some (.int r10)) (h1 := (83, J9, R0 p)) rfl rfl (by rcases hq with rfl | rfl <;> rfl) (t_X4_stoodBy hq hq7) ?_
          refine TT_go 4 (pc' := 86) (lv' := [(8, .int r10), (0, .ref 44), (1, .ref q), (2, .ref 31), (3, .ref 33), (4, .int v4), (5, .int v5), (6, .int v6), (7, .int v7)]) (st' := [.int (J9 44 2), .int r10]) (h2 := (83, J9, R0 p)) (by rcases hq with rfl | rfl <;> rfl) ?_
          by_cases hc11 : (J9 44 2) ≤ r10
          · rw [if_pos hc11] at hg
            refine TT_ige_t (t := 109) rfl rfl hc11 ?_
            refine TT_go 0 (pc' := 109) (lv' := [(8, .int r10), (0, .ref 44), (1, .ref q), (2, .ref 31), (3, .ref 33), (4, .int v4), (5, .int v5), (6, .int v6), (7, .int v7)]) (st' := []) (h2 := (83, J9, R0 p)) (by rcases hq with rfl | rfl <;> rfl) ?_
            refine TT_sub (lv2 := [(0, .ref 44), (1, .ref q), (2, .ref 31), (3, .ref 33), (4, .int v4), (5, .int v5), (6, .int v6), (7, .int v7)]) rfl rfl ⟨rfl, rfl, rfl, rfl, rfl, rfl, rfl, rfl, trivial⟩ ?_
            exact t_X4_search_109 hq ih hg
          · rw [if_neg hc11] at hg
            refine TT_ige_f (t := 109) rfl rfl hc11 ?_
            obtain ⟨J16, hJ16⟩ : ∃ x : IH, x = (up2 J9 44 2 r10) := ⟨_, rfl⟩
            replace hg := bnd_use hJ16 hg
            refine TT_go 3 (pc' := 95) (lv' := [(8, .int r10), (0, .ref 44), (1, .ref q), (2, .ref 31), (3, .ref 33), (4, .int v4), (5, .int v5), (6, .int v6), (7, .int v7)]) (st' := []) (h2 := (83, J16, R0 p)) (by subst hJ16; rcases hq with rfl | rfl <;> rfl) ?_
            obtain ⟨J17, hJ17⟩ : ∃ x : IH, x = (cpyH J16 45 46 0 0 3) := ⟨_, rfl⟩
            replace hg := bnd_use hJ17 hg
            refine TT_go 8 (pc' := 109) (lv' := [(8, .int r10), (0, .ref 44), (1, .ref q), (2, .ref 31), (3, .ref 33), (4, .int v4), (5, .int v5), (6, .int v6), (7, .int v7)]) (st' := []) (h2 := (83, J17, R0 p)) (by subst hJ17; rcases hq with rfl | rfl <;> rfl) ?_
            refine TT_sub (lv2 := [(0, .ref 44), (1, .ref q), (2, .ref 31), (3, .ref 33), (4, .int v4), (5, .int v5), (6, .int v6), (7, .int v7)]) rfl rfl ⟨rfl, rfl, rfl, rfl, rfl, rfl, rfl, rfl, trivial⟩ ?_
            exact t_X4_search_109 hq ih hg
def g_X4_search_37 (n : Nat) (q : Nat) (k6 : Int32 → Int32 → Int32 → Int32 → IH → Option (IH)) (v4 : Int32) (v5 : Int32) (v7 : Int32) (t0 : Int32) (t1 : Int32) (I : IH) : Option (IH) :=
  bnd ((t1 * t0)) fun x21 =>
  bnd (v7 + 1) fun x22 =>
  k6 v4 v5 x21 x22 I
set_option maxRecDepth 20000 in
theorem t_X4_search_37 {q : Nat} (hq : q = 5 ∨ q = 18) {p : Nat} {n : Nat} {k6 : Int32 → Int32 → Int32 → Int32 → IH → Option (IH)} (hk6 : ∀ (v4 : Int32) (v5 : Int32) (v6 : Int32) (v7 : Int32) (I : IH) (w : IH), k6 v4 v5 v6 v7 I = some w → TT none mt_X4_search 6 [(0, .ref 44), (1, .ref q), (2, .ref 31), (3, .ref 33), (4, .int v4), (5, .int v5), (6, .int v6), (7, .int v7)] [] (83, I, R0 p) none (83, w, R0 p)) {v4 : Int32} {v5 : Int32} {v7 : Int32} {t0 : Int32} {t1 : Int32} {I : IH} {w : IH} (hg : g_X4_search_37 n q k6 v4 v5 v7 t0 t1 I = some w) : TT none mt_X4_search 37 [(0, .ref 44), (1, .ref q), (2, .ref 31), (3, .ref 33), (4, .int v4), (5, .int v5), (7, .int v7)] [.int t0, .int t1] (83, I, R0 p) none (83, w, R0 p) := by
  unfold g_X4_search_37 at hg
  obtain ⟨x21, hx21⟩ : ∃ x : Int32, x = ((t1 * t0)) := ⟨_, rfl⟩
  replace hg := bnd_use hx21 hg
  refine TT_go 2 (pc' := 40) (lv' := [(6, .int x21), (0, .ref 44), (1, .ref q), (2, .ref 31), (3, .ref 33), (4, .int v4), (5, .int v5), (7, .int v7)]) (st' := []) (h2 := (83, I, R0 p)) (by subst hx21; rcases hq with rfl | rfl <;> rfl) ?_
  obtain ⟨x22, hx22⟩ : ∃ x : Int32, x = (v7 + 1) := ⟨_, rfl⟩
  replace hg := bnd_use hx22 hg
  refine TT_go 1 (pc' := 43) (lv' := [(7, .int x22), (6, .int x21), (0, .ref 44), (1, .ref q), (2, .ref 31), (3, .ref 33), (4, .int v4), (5, .int v5)]) (st' := []) (h2 := (83, I, R0 p)) (by subst hx22; rcases hq with rfl | rfl <;> rfl) ?_
  refine TT_go 1 (pc' := 6) (lv' := [(7, .int x22), (6, .int x21), (0, .ref 44), (1, .ref q), (2, .ref 31), (3, .ref 33), (4, .int v4), (5, .int v5)]) (st' := []) (h2 := (83, I, R0 p)) (by rcases hq with rfl | rfl <;> rfl) ?_
  refine TT_sub (lv2 := [(0, .ref 44), (1, .ref q), (2, .ref 31), (3, .ref 33), (4, .int v4), (5, .int v5), (6, .int x21), (7, .int x22)]) rfl rfl ⟨rfl, rfl, rfl, rfl, rfl, rfl, rfl, rfl, trivial⟩ ?_
  exact hk6 v4 v5 x21 x22 _ _ hg
def g_X4_search_6 (q : Nat) : Nat → Int32 → Int32 → Int32 → Int32 → IH → Option (IH)
  | 0, _, _, _, _, _ => none
  | n + 1, v4, v5, v6, v7, I =>
    if 3 ≤ v7 then
      bnd (up2 I 44 2 1601) fun J2 =>
      g_X4_search_56 q n v4 v5 v6 0 J2
    else
      if inB v7 3 = true then
        bnd (up2 I 45 (Int32.toNatClampNeg v7) 0) fun J19 =>
        if v4 ≤ v7 then
          g_X4_search_37 n q (g_X4_search_6 q n) v4 v5 v7 1 v6 J19
        else
          g_X4_search_37 n q (g_X4_search_6 q n) v4 v5 v7 ((J19 q 0)) v6 J19
      else none
set_option maxRecDepth 20000 in
theorem t_X4_search_6 {q : Nat} (hq : q = 5 ∨ q = 18) {p : Nat} : ∀ (n : Nat) (v4 : Int32) (v5 : Int32) (v6 : Int32) (v7 : Int32) (I : IH) (w : IH), g_X4_search_6 q n v4 v5 v6 v7 I = some w → TT none mt_X4_search 6 [(0, .ref 44), (1, .ref q), (2, .ref 31), (3, .ref 33), (4, .int v4), (5, .int v5), (6, .int v6), (7, .int v7)] [] (83, I, R0 p) none (83, w, R0 p) := by
  intro n
  induction n with
  | zero => intro v4 v5 v6 v7 I w hg; cases hg
  | succ n ih =>
    intro v4 v5 v6 v7 I w hg
    unfold g_X4_search_6 at hg
    refine TT_go 2 (pc' := 9) (lv' := [(0, .ref 44), (1, .ref q), (2, .ref 31), (3, .ref 33), (4, .int v4), (5, .int v5), (6, .int v6), (7, .int v7)]) (st' := [.int 3, .int v7]) (h2 := (83, I, R0 p)) (by rcases hq with rfl | rfl <;> rfl) ?_
    by_cases hc1 : 3 ≤ v7
    · rw [if_pos hc1] at hg
      refine TT_ige_t (t := 46) rfl rfl hc1 ?_
      obtain ⟨J2, hJ2⟩ : ∃ x : IH, x = (up2 I 44 2 1601) := ⟨_, rfl⟩
      replace hg := bnd_use hJ2 hg
      refine TT_go 3 (pc' := 53) (lv' := [(0, .ref 44), (1, .ref q), (2, .ref 31), (3, .ref 33), (4, .int v4), (5, .int v5), (6, .int v6), (7, .int v7)]) (st' := []) (h2 := (83, J2, R0 p)) (by subst hJ2; rcases hq with rfl | rfl <;> rfl) ?_
      refine TT_go 2 (pc' := 56) (lv' := [(7, .int 0), (0, .ref 44), (1, .ref q), (2, .ref 31), (3, .ref 33), (4, .int v4), (5, .int v5), (6, .int v6)]) (st' := []) (h2 := (83, J2, R0 p)) (by rcases hq with rfl | rfl <;> rfl) ?_
      refine TT_sub (lv2 := [(0, .ref 44), (1, .ref q), (2, .ref 31), (3, .ref 33), (4, .int v4), (5, .int v5), (6, .int v6), (7, .int 0)]) rfl rfl ⟨rfl, rfl, rfl, rfl, rfl, rfl, rfl, rfl, trivial⟩ ?_
      exact t_X4_search_56 hq n v4 v5 v6 0 _ _ hg
    · rw [if_neg hc1] at hg
      refine TT_ige_f (t := 46) rfl rfl hc1 ?_
      refine TT_go 4 (pc' := 19) (lv' := [(0, .ref 44), (1, .ref q), (2, .ref 31), (3, .ref 33), (4, .int v4), (5, .int v5), (6, .int v6), (7, .int v7)]) (st' := [.int 0, .int v7, .ref 45]) (h2 := (83, I, R0 p)) (by rcases hq with rfl | rfl <;> rfl) ?_
      by_cases hb18 : inB v7 3 = true
      rotate_left
      · rw [if_neg hb18] at hg; cases hg
      rw [if_pos hb18] at hg
      refine TT_iast (n := 3) rfl (by rcases hq with rfl | rfl <;> rfl) hb18 ?_
      obtain ⟨J19, hJ19⟩ : ∃ x : IH, x = (up2 I 45 (Int32.toNatClampNeg v7) 0) := ⟨_, rfl⟩
      replace hg := bnd_use hJ19 hg
      refine TT_go 0 (pc' := 20) (lv' := [(0, .ref 44), (1, .ref q), (2, .ref 31), (3, .ref 33), (4, .int v4), (5, .int v5), (6, .int v6), (7, .int v7)]) (st' := []) (h2 := (83, J19, R0 p)) (by subst hJ19; rcases hq with rfl | rfl <;> rfl) ?_
      refine TT_go 3 (pc' := 26) (lv' := [(0, .ref 44), (1, .ref q), (2, .ref 31), (3, .ref 33), (4, .int v4), (5, .int v5), (6, .int v6), (7, .int v7)]) (st' := [.int v4, .int v7, .int v6]) (h2 := (83, J19, R0 p)) (by rcases hq with rfl | rfl <;> rfl) ?_
      by_cases hc20 : v4 ≤ v7
      · rw [if_pos hc20] at hg
        refine TT_ige_t (t := 36) rfl rfl hc20 ?_
        refine TT_go 1 (pc' := 37) (lv' := [(0, .ref 44), (1, .ref q), (2, .ref 31), (3, .ref 33), (4, .int v4), (5, .int v5), (6, .int v6), (7, .int v7)]) (st' := [.int 1, .int v6]) (h2 := (83, J19, R0 p)) (by rcases hq with rfl | rfl <;> rfl) ?_
        refine TT_sub (lv2 := [(0, .ref 44), (1, .ref q), (2, .ref 31), (3, .ref 33), (4, .int v4), (5, .int v5), (7, .int v7)]) rfl rfl ⟨rfl, rfl, rfl, rfl, rfl, rfl, rfl, trivial⟩ ?_
        exact t_X4_search_37 hq ih hg
      · rw [if_neg hc20] at hg
        refine TT_ige_f (t := 36) rfl rfl hc20 ?_
        refine TT_go 3 (pc' := 37) (lv' := [(0, .ref 44), (1, .ref q), (2, .ref 31), (3, .ref 33), (4, .int v4), (5, .int v5), (6, .int v6), (7, .int v7)]) (st' := [.int (J19 q 0), .int v6]) (h2 := (83, J19, R0 p)) (by rcases hq with rfl | rfl <;> rfl) ?_
        refine TT_sub (lv2 := [(0, .ref 44), (1, .ref q), (2, .ref 31), (3, .ref 33), (4, .int v4), (5, .int v5), (7, .int v7)]) rfl rfl ⟨rfl, rfl, rfl, rfl, rfl, rfl, rfl, trivial⟩ ?_
        exact t_X4_search_37 hq ih hg
def g_X4_search (n : Nat) (q : Nat) (a3 : Int32) (a4 : Int32) (I : IH) : Option (IH) :=
  g_X4_search_6 q n a3 a4 1 0 I
set_option maxRecDepth 20000 in
theorem t_X4_search {q : Nat} (hq : q = 5 ∨ q = 18) {p : Nat} {n : Nat} {a3 : Int32} {a4 : Int32} {I : IH} {w : IH} (hg : g_X4_search n q a3 a4 I = some w) : TT none mt_X4_search 0 (lv_args 0 [.ref 44, .ref q, .ref 31, .ref 33, .int a3, .int a4]) [] (83, I, R0 p) none (83, w, R0 p) := by
  unfold g_X4_search at hg
  refine TT_go 4 (pc' := 6) (lv' := [(7, .int 0), (6, .int 1), (0, .ref 44), (1, .ref q), (2, .ref 31), (3, .ref 33), (4, .int a3), (5, .int a4)]) (st' := []) (h2 := (83, I, R0 p)) (by rcases hq with rfl | rfl <;> rfl) ?_
  refine TT_sub (lv2 := [(0, .ref 44), (1, .ref q), (2, .ref 31), (3, .ref 33), (4, .int a3), (5, .int a4), (6, .int 1), (7, .int 0)]) rfl rfl ⟨rfl, rfl, rfl, rfl, rfl, rfl, rfl, rfl, trivial⟩ ?_
  exact t_X4_search_6 hq n a3 a4 1 0 _ _ hg
def g_X5_fill (n : Nat) (q : Nat) (I : IH) : Option (IH) :=
  bnd (cpyH I (q + 5) 32 0 0 16) fun J1 =>
  bnd (up2 J1 31 1 0) fun J2 =>
  bnd (up2 J2 31 2 0) fun J3 =>
  some J3
set_option maxRecDepth 20000 in
theorem t_X5_fill {q : Nat} (hq : q = 5 ∨ q = 18) {p : Nat} {n : Nat} {I : IH} {w : IH} (hg : g_X5_fill n q I = some w) : TT none mt_X5_fill 0 (lv_args 0 [.ref 31, .ref q]) [] (83, I, R0 p) none (83, w, R0 p) := by
  unfold g_X5_fill at hg
  obtain ⟨J1, hJ1⟩ : ∃ x : IH, x = (cpyH I (q + 5) 32 0 0 16) := ⟨_, rfl⟩
  replace hg := bnd_use hJ1 hg
  refine TT_go 10 (pc' := 18) (lv' := [(0, .ref 31), (1, .ref q)]) (st' := []) (h2 := (83, J1, R0 p)) (by subst hJ1; rcases hq with rfl | rfl <;> rfl) ?_
  obtain ⟨J2, hJ2⟩ : ∃ x : IH, x = (up2 J1 31 1 0) := ⟨_, rfl⟩
  replace hg := bnd_use hJ2 hg
  refine TT_go 3 (pc' := 23) (lv' := [(0, .ref 31), (1, .ref q)]) (st' := []) (h2 := (83, J2, R0 p)) (by subst hJ2; rcases hq with rfl | rfl <;> rfl) ?_
  obtain ⟨J3, hJ3⟩ : ∃ x : IH, x = (up2 J2 31 2 0) := ⟨_, rfl⟩
  replace hg := bnd_use hJ3 hg
  refine TT_go 3 (pc' := 28) (lv' := [(0, .ref 31), (1, .ref q)]) (st' := []) (h2 := (83, J3, R0 p)) (by subst hJ3; rcases hq with rfl | rfl <;> rfl) ?_
  have hg := Option.some.inj hg
  subst hg
  exact TT_ret rfl rfl
def g_X5_goOn_3 (s : Nat) (q : Nat) : Nat → Int32 → Int32 → Int32 → Int32 → IH → Option (IH)
  | 0, _, _, _, _, _ => none
  | n + 1, v2, v3, v4, v5, I =>
    if v2 ≤ v5 then
      some I
    else
      match g_X5_letClerksTurn n s q v3 v4 I with
      | none => none
      | some J4 =>
        match g_X5_letSandFall n s q J4 with
        | none => none
        | some J7 =>
          bnd (v5 + 1) fun x8 =>
          g_X5_goOn_3 s q n v2 v3 v4 x8 J7
set_option maxRecDepth 20000 in
theorem t_X5_goOn_3 {s : Nat} (hs : s = 31 ∨ s = 33) {q : Nat} (hq : q = 5 ∨ q = 18) {p : Nat} : ∀ (n : Nat) (v2 : Int32) (v3 : Int32) (v4 : Int32) (v5 : Int32) (I : IH) (w : IH), g_X5_goOn_3 s q n v2 v3 v4 v5 I = some w → TT none mt_X5_goOn 3 [(0, .ref s), (1, .ref q), (2, .int v2), (3, .int v3), (4, .int v4), (5, .int v5)] [] (83, I, R0 p) none (83, w, R0 p) := by
  intro n
  induction n with
  | zero => intro v2 v3 v4 v5 I w hg; cases hg
  | succ n ih =>
    intro v2 v3 v4 v5 I w hg
    unfold g_X5_goOn_3 at hg
    refine TT_go 2 (pc' := 6) (lv' := [(0, .ref s), (1, .ref q), (2, .int v2), (3, .int v3), (4, .int v4), (5, .int v5)]) (st' := [.int v2, .int v5]) (h2 := (83, I, R0 p)) (by rcases hs with rfl | rfl <;> rcases hq with rfl | rfl <;> rfl) ?_
    by_cases hc1 : v2 ≤ v5
    · rw [if_pos hc1] at hg
      refine TT_ige_t (t := 28) rfl rfl hc1 ?_
      refine TT_go 0 (pc' := 28) (lv' := [(0, .ref s), (1, .ref q), (2, .int v2), (3, .int v3), (4, .int v4), (5, .int v5)]) (st' := []) (h2 := (83, I, R0 p)) (by rcases hs with rfl | rfl <;> rcases hq with rfl | rfl <;> rfl) ?_
      have hg := Option.some.inj hg
      subst hg
      exact TT_ret rfl rfl
    · rw [if_neg hc1] at hg
      refine TT_ige_f (t := 28) rfl rfl hc1 ?_
      refine TT_go 4 (pc' := 14) (lv' := [(0, .ref s), (1, .ref q), (2, .int v2), (3, .int v3), (4, .int v4), (5, .int v5)]) (st' := [.int v4, .int v3, .ref q, .ref s]) (h2 := (83, I, R0 p)) (by rcases hs with rfl | rfl <;> rcases hq with rfl | rfl <;> rfl) ?_
      cases hq2 : g_X5_letClerksTurn n s q v3 v4 I with
      | none => rw [hq2] at hg; cases hg
      | some w3 =>
        obtain ⟨J4, hJ4⟩ : ∃ J, J = w3 := ⟨_, rfl⟩
        rw [← hJ4] at hq2
        rw [hq2] at hg
        dsimp only at hg
        refine TT_call (me' := mt_X5_letClerksTurn) (as := [.ref s, .ref q, .int v3, .int v4]) (rest := []) (r1 := none) (h1 := (83, J4, R0 p)) rfl rfl (by rcases hs with rfl | rfl <;> rcases hq with rfl | rfl <;> rfl) (t_X5_letClerksTurn hs hq hq2) ?_
        refine TT_go 2 (pc' := 19) (lv' := [(0, .ref s), (1, .ref q), (2, .int v2), (3, .int v3), (4, .int v4), (5, .int v5)]) (st' := [.ref q, .ref s]) (h2 := (83, J4, R0 p)) (by rcases hs with rfl | rfl <;> rcases hq with rfl | rfl <;> rfl) ?_
        cases hq5 : g_X5_letSandFall n s q J4 with
        | none => rw [hq5] at hg; cases hg
        | some w6 =>
          obtain ⟨J7, hJ7⟩ : ∃ J, J = w6 := ⟨_, rfl⟩
          rw [← hJ7] at hq5
          rw [hq5] at hg
          dsimp only at hg
          refine TT_call (me' := mt_X5_letSandFall) (as := [.ref s, .ref q]) (rest := []) (r1 := none) (h1 := (83, J7, R0 p)) rfl rfl (by rcases hs with rfl | rfl <;> rcases hq with rfl | rfl <;> rfl) (t_X5_letSandFall hs hq hq5) ?_
          obtain ⟨x8, hx8⟩ : ∃ x : Int32, x = (v5 + 1) := ⟨_, rfl⟩
          replace hg := bnd_use hx8 hg
          refine TT_go 1 (pc' := 25) (lv' := [(5, .int x8), (0, .ref s), (1, .ref q), (2, .int v2), (3, .int v3), (4, .int v4)]) (st' := []) (h2 := (83, J7, R0 p)) (by subst hx8; rcases hs with rfl | rfl <;> rcases hq with rfl | rfl <;> rfl) ?_
          refine TT_go 1 (pc' := 3) (lv' := [(5, .int x8), (0, .ref s), (1, .ref q), (2, .int v2), (3, .int v3), (4, .int v4)]) (st' := []) (h2 := (83, J7, R0 p)) (by rcases hs with rfl | rfl <;> rcases hq with rfl | rfl <;> rfl) ?_
          refine TT_sub (lv2 := [(0, .ref s), (1, .ref q), (2, .int v2), (3, .int v3), (4, .int v4), (5, .int x8)]) rfl rfl ⟨rfl, rfl, rfl, rfl, rfl, rfl, trivial⟩ ?_
          exact ih v2 v3 v4 x8 _ _ hg
def g_X5_goOn (n : Nat) (s : Nat) (q : Nat) (a1 : Int32) (a2 : Int32) (a3 : Int32) (I : IH) : Option (IH) :=
  g_X5_goOn_3 s q n a1 a2 a3 0 I
set_option maxRecDepth 20000 in
theorem t_X5_goOn {s : Nat} (hs : s = 31 ∨ s = 33) {q : Nat} (hq : q = 5 ∨ q = 18) {p : Nat} {n : Nat} {a1 : Int32} {a2 : Int32} {a3 : Int32} {I : IH} {w : IH} (hg : g_X5_goOn n s q a1 a2 a3 I = some w) : TT none mt_X5_goOn 0 (lv_args 0 [.ref s, .ref q, .int a1, .int a2, .int a3]) [] (83, I, R0 p) none (83, w, R0 p) := by
  unfold g_X5_goOn at hg
  refine TT_go 2 (pc' := 3) (lv' := [(5, .int 0), (0, .ref s), (1, .ref q), (2, .int a1), (3, .int a2), (4, .int a3)]) (st' := []) (h2 := (83, I, R0 p)) (by rcases hs with rfl | rfl <;> rcases hq with rfl | rfl <;> rfl) ?_
  refine TT_sub (lv2 := [(0, .ref s), (1, .ref q), (2, .int a1), (3, .int a2), (4, .int a3), (5, .int 0)]) rfl rfl ⟨rfl, rfl, rfl, rfl, rfl, rfl, trivial⟩ ?_
  exact t_X5_goOn_3 hs hq n a1 a2 a3 0 _ _ hg
def g_X5_minutesLeft_14 (s : Nat) (q : Nat) : Nat → Int32 → Int32 → Int32 → IH → Option (Int32 × IH)
  | 0, _, _, _, _ => none
  | n + 1, v2, v3, v4, I =>
    if v3 ≤ 0 then
      some (v4, I)
    else
      if 100000 ≤ v4 then
        some (v4, I)
      else
        match g_X5_flowIn n q ((I s 2) + v4) I with
        | none => none
        | some (m12, J11) =>
          if inB v2 8 = true then
            bnd (J11 m12 (Int32.toNatClampNeg v2)) fun x14 =>
            bnd ((v3 - x14)) fun x15 =>
            bnd (v4 + 1) fun x16 =>
            g_X5_minutesLeft_14 s q n v2 x15 x16 J11
          else none
set_option maxRecDepth 20000 in
theorem t_X5_minutesLeft_14 {s : Nat} (hs : s = 31 ∨ s = 33) {q : Nat} (hq : q = 5 ∨ q = 18) {p : Nat} : ∀ (n : Nat) (v2 : Int32) (v3 : Int32) (v4 : Int32) (I : IH) (w : Int32 × IH), g_X5_minutesLeft_14 s q n v2 v3 v4 I = some w → TT none mt_X5_minutesLeft 14 [(0, .ref s), (1, .ref q), (2, .int v2), (3, .int v3), (4, .int v4)] [] (83, I, R0 p) (some (.int w.1)) (83, w.2, R0 p) := by
  intro n
  induction n with
  | zero => intro v2 v3 v4 I w hg; cases hg
  | succ n ih =>
    intro v2 v3 v4 I w hg
    unfold g_X5_minutesLeft_14 at hg
    refine TT_go 1 (pc' := 15) (lv' := [(0, .ref s), (1, .ref q), (2, .int v2), (3, .int v3), (4, .int v4)]) (st' := [.int v3]) (h2 := (83, I, R0 p)) (by rcases hs with rfl | rfl <;> rcases hq with rfl | rfl <;> rfl) ?_
    by_cases hc7 : v3 ≤ 0
    · rw [if_pos hc7] at hg
      refine TT_zle_t (t := 47) rfl rfl hc7 ?_
      refine TT_go 1 (pc' := 49) (lv' := [(0, .ref s), (1, .ref q), (2, .int v2), (3, .int v3), (4, .int v4)]) (st' := [.int v4]) (h2 := (83, I, R0 p)) (by rcases hs with rfl | rfl <;> rcases hq with rfl | rfl <;> rfl) ?_
      have hg := Option.some.inj hg
      subst hg
      exact TT_ret rfl rfl
    · rw [if_neg hc7] at hg
      refine TT_zle_f (t := 47) rfl rfl hc7 ?_
      refine TT_go 2 (pc' := 22) (lv' := [(0, .ref s), (1, .ref q), (2, .int v2), (3, .int v3), (4, .int v4)]) (st' := [.int 100000, .int v4]) (h2 := (83, I, R0 p)) (by rcases hs with rfl | rfl <;> rcases hq with rfl | rfl <;> rfl) ?_
      by_cases hc8 : 100000 ≤ v4
      · rw [if_pos hc8] at hg
        refine TT_ige_t (t := 47) rfl rfl hc8 ?_
        refine TT_go 1 (pc' := 49) (lv' := [(0, .ref s), (1, .ref q), (2, .int v2), (3, .int v3), (4, .int v4)]) (st' := [.int v4]) (h2 := (83, I, R0 p)) (by rcases hs with rfl | rfl <;> rcases hq with rfl | rfl <;> rfl) ?_
        have hg := Option.some.inj hg
        subst hg
        exact TT_ret rfl rfl
      · rw [if_neg hc8] at hg
        refine TT_ige_f (t := 47) rfl rfl hc8 ?_
        refine TT_go 6 (pc' := 34) (lv' := [(0, .ref s), (1, .ref q), (2, .int v2), (3, .int v3), (4, .int v4)]) (st' := [.int ((I s 2) + v4), .ref q, .int v3]) (h2 := (83, I, R0 p)) (by rcases hs with rfl | rfl <;> rcases hq with rfl | rfl <;> rfl) ?_
        cases hq9 : g_X5_flowIn n q ((I s 2) + v4) I with
        | none => rw [hq9] at hg; cases hg
        | some w10 =>
          obtain ⟨m12, J11⟩ := w10
          have hm12 : m12 = q + 7 ∨ m12 = q + 6 := flowIn_res hq9
          rw [hq9] at hg
          dsimp only at hg
          refine TT_call (me' := mt_X5_flowIn) (as := [.ref q, .int ((I s 2) + v4)]) (rest := [.int v3]) (r1 := some (.ref m12)) (h1 := (83, J11, R0 p)) rfl rfl (by rcases hs with rfl | rfl <;> rcases hq with rfl | rfl <;> rfl) (t_X5_flowIn hq hq9) ?_
          refine TT_go 1 (pc' := 38) (lv' := [(0, .ref s), (1, .ref q), (2, .int v2), (3, .int v3), (4, .int v4)]) (st' := [.int v2, .ref m12, .int v3]) (h2 := (83, J11, R0 p)) (by rcases hm12 with rfl | rfl <;> rcases hs with rfl | rfl <;> rcases hq with rfl | rfl <;> rfl) ?_
          by_cases hb13 : inB v2 8 = true
          rotate_left
          · rw [if_neg hb13] at hg; cases hg
          rw [if_pos hb13] at hg
          refine TT_iald (n := 8) rfl (by rcases hm12 with rfl | rfl <;> rcases hs with rfl | rfl <;> rcases hq with rfl | rfl <;> rfl) hb13 ?_
          obtain ⟨x14, hx14⟩ : ∃ x : Int32, x = (J11 m12 (Int32.toNatClampNeg v2)) := ⟨_, rfl⟩
          replace hg := bnd_use hx14 hg
          refine TT_go 0 (pc' := 39) (lv' := [(0, .ref s), (1, .ref q), (2, .int v2), (3, .int v3), (4, .int v4)]) (st' := [.int x14, .int v3]) (h2 := (83, J11, R0 p)) (by subst hx14; rcases hm12 with rfl | rfl <;> rcases hs with rfl | rfl <;> rcases hq with rfl | rfl <;> rfl) ?_
          obtain ⟨x15, hx15⟩ : ∃ x : Int32, x = ((v3 - x14)) := ⟨_, rfl⟩
          replace hg := bnd_use hx15 hg
          refine TT_go 2 (pc' := 41) (lv' := [(3, .int x15), (0, .ref s), (1, .ref q), (2, .int v2), (4, .int v4)]) (st' := []) (h2 := (83, J11, R0 p)) (by subst hx15; rcases hm12 with rfl | rfl <;> rcases hs with rfl | rfl <;> rcases hq with rfl | rfl <;> rfl) ?_
          obtain ⟨x16, hx16⟩ : ∃ x : Int32, x = (v4 + 1) := ⟨_, rfl⟩
          replace hg := bnd_use hx16 hg
          refine TT_go 1 (pc' := 44) (lv' := [(4, .int x16), (3, .int x15), (0, .ref s), (1, .ref q), (2, .int v2)]) (st' := []) (h2 := (83, J11, R0 p)) (by subst hx16; rcases hm12 with rfl | rfl <;> rcases hs with rfl | rfl <;> rcases hq with rfl | rfl <;> rfl) ?_
          refine TT_go 1 (pc' := 14) (lv' := [(4, .int x16), (3, .int x15), (0, .ref s), (1, .ref q), (2, .int v2)]) (st' := []) (h2 := (83, J11, R0 p)) (by rcases hm12 with rfl | rfl <;> rcases hs with rfl | rfl <;> rcases hq with rfl | rfl <;> rfl) ?_
          refine TT_sub (lv2 := [(0, .ref s), (1, .ref q), (2, .int v2), (3, .int x15), (4, .int x16)]) rfl rfl ⟨rfl, rfl, rfl, rfl, rfl, trivial⟩ ?_
          exact ih v2 x15 x16 _ _ hg
def g_X5_minutesLeft (n : Nat) (s : Nat) (q : Nat) (a1 : Int32) (I : IH) : Option (Int32 × IH) :=
  match g_X5_upperBulb n s a1 I with
  | none => none
  | some (r4, J3) =>
    if inB r4 16 = true then
      bnd (J3 ((s + 1)) (Int32.toNatClampNeg r4)) fun x6 =>
      g_X5_minutesLeft_14 s q n a1 x6 0 J3
    else none
set_option maxRecDepth 20000 in
theorem t_X5_minutesLeft {s : Nat} (hs : s = 31 ∨ s = 33) {q : Nat} (hq : q = 5 ∨ q = 18) {p : Nat} {n : Nat} {a1 : Int32} {I : IH} {w : Int32 × IH} (hg : g_X5_minutesLeft n s q a1 I = some w) : TT none mt_X5_minutesLeft 0 (lv_args 0 [.ref s, .ref q, .int a1]) [] (83, I, R0 p) (some (.int w.1)) (83, w.2, R0 p) := by
  unfold g_X5_minutesLeft at hg
  refine TT_go 4 (pc' := 6) (lv' := [(0, .ref s), (1, .ref q), (2, .int a1)]) (st' := [.int a1, .ref s, .ref (s + 1)]) (h2 := (83, I, R0 p)) (by rcases hs with rfl | rfl <;> rcases hq with rfl | rfl <;> rfl) ?_
  cases hq1 : g_X5_upperBulb n s a1 I with
  | none => rw [hq1] at hg; cases hg
  | some w2 =>
    obtain ⟨r4, J3⟩ := w2
    rw [hq1] at hg
    dsimp only at hg
    refine TT_call (me' := mt_X5_upperBulb) (as := [.ref s, .int a1]) (rest := [.ref (s + 1)]) (r1 := some (.int r4)) (h1 := (83, J3, R0 p)) rfl rfl (by rcases hs with rfl | rfl <;> rcases hq with rfl | rfl <;> rfl) (t_X5_upperBulb hs hq1) ?_
    refine TT_go 0 (pc' := 9) (lv' := [(0, .ref s), (1, .ref q), (2, .int a1)]) (st' := [.int r4, .ref (s + 1)]) (h2 := (83, J3, R0 p)) (by rcases hs with rfl | rfl <;> rcases hq with rfl | rfl <;> rfl) ?_
    by_cases hb5 : inB r4 16 = true
    rotate_left
    · rw [if_neg hb5] at hg; cases hg
    rw [if_pos hb5] at hg
    refine TT_iald (n := 16) rfl (by rcases hs with rfl | rfl <;> rcases hq with rfl | rfl <;> rfl) hb5 ?_
    obtain ⟨x6, hx6⟩ : ∃ x : Int32, x = (J3 ((s + 1)) (Int32.toNatClampNeg r4)) := ⟨_, rfl⟩
    replace hg := bnd_use hx6 hg
    refine TT_go 0 (pc' := 10) (lv' := [(0, .ref s), (1, .ref q), (2, .int a1)]) (st' := [.int x6]) (h2 := (83, J3, R0 p)) (by subst hx6; rcases hs with rfl | rfl <;> rcases hq with rfl | rfl <;> rfl) ?_
    refine TT_go 3 (pc' := 14) (lv' := [(4, .int 0), (3, .int x6), (0, .ref s), (1, .ref q), (2, .int a1)]) (st' := []) (h2 := (83, J3, R0 p)) (by rcases hs with rfl | rfl <;> rcases hq with rfl | rfl <;> rfl) ?_
    refine TT_sub (lv2 := [(0, .ref s), (1, .ref q), (2, .int a1), (3, .int x6), (4, .int 0)]) rfl rfl ⟨rfl, rfl, rfl, rfl, rfl, trivial⟩ ?_
    exact t_X5_minutesLeft_14 hs hq n a1 x6 0 _ _ hg
def g_X5_grainsOf_112 (n : Nat) (s : Nat) (q : Nat) (k5 : Int32 → Int32 → Int32 → IH → Option (Int32 × IH)) (v2 : Int32) (v3 : Int32) (v4 : Int32) (I : IH) : Option (Int32 × IH) :=
  bnd (v4 + 1) fun x21 =>
  k5 v2 v3 x21 I
set_option maxRecDepth 20000 in
theorem t_X5_grainsOf_112 {s : Nat} (hs : s = 31 ∨ s = 33) {q : Nat} (hq : q = 5 ∨ q = 18) {p : Nat} {n : Nat} {k5 : Int32 → Int32 → Int32 → IH → Option (Int32 × IH)} (hk5 : ∀ (v2 : Int32) (v3 : Int32) (v4 : Int32) (I : IH) (w : Int32 × IH), k5 v2 v3 v4 I = some w → TT none mt_X5_grainsOf 5 [(0, .ref s), (1, .ref q), (2, .int v2), (3, .int v3), (4, .int v4)] [] (83, I, R0 p) (some (.int w.1)) (83, w.2, R0 p)) {v2 : Int32} {v3 : Int32} {v4 : Int32} {I : IH} {w : Int32 × IH} (hg : g_X5_grainsOf_112 n s q k5 v2 v3 v4 I = some w) : TT none mt_X5_grainsOf 112 [(0, .ref s), (1, .ref q), (2, .int v2), (3, .int v3), (4, .int v4)] [] (83, I, R0 p) (some (.int w.1)) (83, w.2, R0 p) := by
  unfold g_X5_grainsOf_112 at hg
  obtain ⟨x21, hx21⟩ : ∃ x : Int32, x = (v4 + 1) := ⟨_, rfl⟩
  replace hg := bnd_use hx21 hg
  refine TT_go 1 (pc' := 115) (lv' := [(4, .int x21), (0, .ref s), (1, .ref q), (2, .int v2), (3, .int v3)]) (st' := []) (h2 := (83, I, R0 p)) (by subst hx21; rcases hs with rfl | rfl <;> rcases hq with rfl | rfl <;> rfl) ?_
  refine TT_go 1 (pc' := 5) (lv' := [(4, .int x21), (0, .ref s), (1, .ref q), (2, .int v2), (3, .int v3)]) (st' := []) (h2 := (83, I, R0 p)) (by rcases hs with rfl | rfl <;> rcases hq with rfl | rfl <;> rfl) ?_
  refine TT_sub (lv2 := [(0, .ref s), (1, .ref q), (2, .int v2), (3, .int v3), (4, .int x21)]) rfl rfl ⟨rfl, rfl, rfl, rfl, rfl, trivial⟩ ?_
  exact hk5 v2 v3 x21 _ _ hg
def g_X5_grainsOf_83 (n : Nat) (s : Nat) (q : Nat) (k5 : Int32 → Int32 → Int32 → IH → Option (Int32 × IH)) (v2 : Int32) (v3 : Int32) (v4 : Int32) (I : IH) : Option (Int32 × IH) :=
  if inB ((2 * v4) + 1) 16 = true then
    bnd (I ((q + 4)) (Int32.toNatClampNeg ((2 * v4) + 1))) fun x16 =>
    if x16 = v2 then
      if inB ((2 * v4) + 1) 16 = true then
        bnd (I ((s + 1)) (Int32.toNatClampNeg ((2 * v4) + 1))) fun x19 =>
        bnd ((v3 + x19)) fun x20 =>
        g_X5_grainsOf_112 n s q k5 v2 x20 v4 I
      else none
    else
      g_X5_grainsOf_112 n s q k5 v2 v3 v4 I
  else none
set_option maxRecDepth 20000 in
theorem t_X5_grainsOf_83 {s : Nat} (hs : s = 31 ∨ s = 33) {q : Nat} (hq : q = 5 ∨ q = 18) {p : Nat} {n : Nat} {k5 : Int32 → Int32 → Int32 → IH → Option (Int32 × IH)} (hk5 : ∀ (v2 : Int32) (v3 : Int32) (v4 : Int32) (I : IH) (w : Int32 × IH), k5 v2 v3 v4 I = some w → TT none mt_X5_grainsOf 5 [(0, .ref s), (1, .ref q), (2, .int v2), (3, .int v3), (4, .int v4)] [] (83, I, R0 p) (some (.int w.1)) (83, w.2, R0 p)) {v2 : Int32} {v3 : Int32} {v4 : Int32} {I : IH} {w : Int32 × IH} (hg : g_X5_grainsOf_83 n s q k5 v2 v3 v4 I = some w) : TT none mt_X5_grainsOf 83 [(0, .ref s), (1, .ref q), (2, .int v2), (3, .int v3), (4, .int v4)] [] (83, I, R0 p) (some (.int w.1)) (83, w.2, R0 p) := by
  unfold g_X5_grainsOf_83 at hg
  refine TT_go 7 (pc' := 93) (lv' := [(0, .ref s), (1, .ref q), (2, .int v2), (3, .int v3), (4, .int v4)]) (st' := [.int ((2 * v4) + 1), .ref (q + 4)]) (h2 := (83, I, R0 p)) (by rcases hs with rfl | rfl <;> rcases hq with rfl | rfl <;> rfl) ?_
  by_cases hb15 : inB ((2 * v4) + 1) 16 = true
  rotate_left
  · rw [if_neg hb15] at hg; cases hg
  rw [if_pos hb15] at hg
  refine TT_iald (n := 16) rfl (by rcases hs with rfl | rfl <;> rcases hq with rfl | rfl <;> rfl) hb15 ?_
  obtain ⟨x16, hx16⟩ : ∃ x : Int32, x = (I ((q + 4)) (Int32.toNatClampNeg ((2 * v4) + 1))) := ⟨_, rfl⟩
  replace hg := bnd_use hx16 hg
  refine TT_go 0 (pc' := 94) (lv' := [(0, .ref s), (1, .ref q), (2, .int v2), (3, .int v3), (4, .int v4)]) (st' := [.int x16]) (h2 := (83, I, R0 p)) (by subst hx16; rcases hs with rfl | rfl <;> rcases hq with rfl | rfl <;> rfl) ?_
  refine TT_go 1 (pc' := 95) (lv' := [(0, .ref s), (1, .ref q), (2, .int v2), (3, .int v3), (4, .int v4)]) (st' := [.int v2, .int x16]) (h2 := (83, I, R0 p)) (by rcases hs with rfl | rfl <;> rcases hq with rfl | rfl <;> rfl) ?_
  by_cases hc17 : x16 = v2
  · rw [if_pos hc17] at hg
    refine TT_ine_f (t := 112) rfl rfl hc17 ?_
    refine TT_go 8 (pc' := 109) (lv' := [(0, .ref s), (1, .ref q), (2, .int v2), (3, .int v3), (4, .int v4)]) (st' := [.int ((2 * v4) + 1), .ref (s + 1), .int v3]) (h2 := (83, I, R0 p)) (by rcases hs with rfl | rfl <;> rcases hq with rfl | rfl <;> rfl) ?_
    by_cases hb18 : inB ((2 * v4) + 1) 16 = true
    rotate_left
    · rw [if_neg hb18] at hg; cases hg
    rw [if_pos hb18] at hg
    refine TT_iald (n := 16) rfl (by rcases hs with rfl | rfl <;> rcases hq with rfl | rfl <;> rfl) hb18 ?_
    obtain ⟨x19, hx19⟩ : ∃ x : Int32, x = (I ((s + 1)) (Int32.toNatClampNeg ((2 * v4) + 1))) := ⟨_, rfl⟩
    replace hg := bnd_use hx19 hg
    refine TT_go 0 (pc' := 110) (lv' := [(0, .ref s), (1, .ref q), (2, .int v2), (3, .int v3), (4, .int v4)]) (st' := [.int x19, .int v3]) (h2 := (83, I, R0 p)) (by subst hx19; rcases hs with rfl | rfl <;> rcases hq with rfl | rfl <;> rfl) ?_
    obtain ⟨x20, hx20⟩ : ∃ x : Int32, x = ((v3 + x19)) := ⟨_, rfl⟩
    replace hg := bnd_use hx20 hg
    refine TT_go 2 (pc' := 112) (lv' := [(3, .int x20), (0, .ref s), (1, .ref q), (2, .int v2), (4, .int v4)]) (st' := []) (h2 := (83, I, R0 p)) (by subst hx20; rcases hs with rfl | rfl <;> rcases hq with rfl | rfl <;> rfl) ?_
    refine TT_sub (lv2 := [(0, .ref s), (1, .ref q), (2, .int v2), (3, .int x20), (4, .int v4)]) rfl rfl ⟨rfl, rfl, rfl, rfl, rfl, trivial⟩ ?_
    exact t_X5_grainsOf_112 hs hq hk5 hg
  · rw [if_neg hc17] at hg
    refine TT_ine_t (t := 112) rfl rfl hc17 ?_
    refine TT_go 0 (pc' := 112) (lv' := [(0, .ref s), (1, .ref q), (2, .int v2), (3, .int v3), (4, .int v4)]) (st' := []) (h2 := (83, I, R0 p)) (by rcases hs with rfl | rfl <;> rcases hq with rfl | rfl <;> rfl) ?_
    refine TT_sub (lv2 := [(0, .ref s), (1, .ref q), (2, .int v2), (3, .int v3), (4, .int v4)]) rfl rfl ⟨rfl, rfl, rfl, rfl, rfl, trivial⟩ ?_
    exact t_X5_grainsOf_112 hs hq hk5 hg
def g_X5_grainsOf_67 (n : Nat) (s : Nat) (q : Nat) (k5 : Int32 → Int32 → Int32 → IH → Option (Int32 × IH)) (v2 : Int32) (v3 : Int32) (v4 : Int32) (v6 : Int32) (I : IH) : Option (Int32 × IH) :=
  if inB v4 8 = true then
    bnd (I ((q + 3)) (Int32.toNatClampNeg v4)) fun x12 =>
    if x12 = v2 then
      bnd ((v3 + v6)) fun x14 =>
      g_X5_grainsOf_83 n s q k5 v2 x14 v4 I
    else
      g_X5_grainsOf_83 n s q k5 v2 v3 v4 I
  else none
set_option maxRecDepth 20000 in
theorem t_X5_grainsOf_67 {s : Nat} (hs : s = 31 ∨ s = 33) {q : Nat} (hq : q = 5 ∨ q = 18) {p : Nat} {n : Nat} {k5 : Int32 → Int32 → Int32 → IH → Option (Int32 × IH)} (hk5 : ∀ (v2 : Int32) (v3 : Int32) (v4 : Int32) (I : IH) (w : Int32 × IH), k5 v2 v3 v4 I = some w → TT none mt_X5_grainsOf 5 [(0, .ref s), (1, .ref q), (2, .int v2), (3, .int v3), (4, .int v4)] [] (83, I, R0 p) (some (.int w.1)) (83, w.2, R0 p)) {v2 : Int32} {v3 : Int32} {v4 : Int32} {v6 : Int32} {I : IH} {w : Int32 × IH} (hg : g_X5_grainsOf_67 n s q k5 v2 v3 v4 v6 I = some w) : TT none mt_X5_grainsOf 67 [(0, .ref s), (1, .ref q), (2, .int v2), (3, .int v3), (4, .int v4), (6, .int v6)] [] (83, I, R0 p) (some (.int w.1)) (83, w.2, R0 p) := by
  unfold g_X5_grainsOf_67 at hg
  refine TT_go 3 (pc' := 73) (lv' := [(0, .ref s), (1, .ref q), (2, .int v2), (3, .int v3), (4, .int v4), (6, .int v6)]) (st' := [.int v4, .ref (q + 3)]) (h2 := (83, I, R0 p)) (by rcases hs with rfl | rfl <;> rcases hq with rfl | rfl <;> rfl) ?_
  by_cases hb11 : inB v4 8 = true
  rotate_left
  · rw [if_neg hb11] at hg; cases hg
  rw [if_pos hb11] at hg
  refine TT_iald (n := 8) rfl (by rcases hs with rfl | rfl <;> rcases hq with rfl | rfl <;> rfl) hb11 ?_
  obtain ⟨x12, hx12⟩ : ∃ x : Int32, x = (I ((q + 3)) (Int32.toNatClampNeg v4)) := ⟨_, rfl⟩
  replace hg := bnd_use hx12 hg
  refine TT_go 0 (pc' := 74) (lv' := [(0, .ref s), (1, .ref q), (2, .int v2), (3, .int v3), (4, .int v4), (6, .int v6)]) (st' := [.int x12]) (h2 := (83, I, R0 p)) (by subst hx12; rcases hs with rfl | rfl <;> rcases hq with rfl | rfl <;> rfl) ?_
  refine TT_go 1 (pc' := 75) (lv' := [(0, .ref s), (1, .ref q), (2, .int v2), (3, .int v3), (4, .int v4), (6, .int v6)]) (st' := [.int v2, .int x12]) (h2 := (83, I, R0 p)) (by rcases hs with rfl | rfl <;> rcases hq with rfl | rfl <;> rfl) ?_
  by_cases hc13 : x12 = v2
  · rw [if_pos hc13] at hg
    refine TT_ine_f (t := 83) rfl rfl hc13 ?_
    obtain ⟨x14, hx14⟩ : ∃ x : Int32, x = ((v3 + v6)) := ⟨_, rfl⟩
    replace hg := bnd_use hx14 hg
    refine TT_go 4 (pc' := 83) (lv' := [(3, .int x14), (0, .ref s), (1, .ref q), (2, .int v2), (4, .int v4), (6, .int v6)]) (st' := []) (h2 := (83, I, R0 p)) (by subst hx14; rcases hs with rfl | rfl <;> rcases hq with rfl | rfl <;> rfl) ?_
    refine TT_sub (lv2 := [(0, .ref s), (1, .ref q), (2, .int v2), (3, .int x14), (4, .int v4)]) rfl rfl ⟨rfl, rfl, rfl, rfl, rfl, trivial⟩ ?_
    exact t_X5_grainsOf_83 hs hq hk5 hg
  · rw [if_neg hc13] at hg
    refine TT_ine_t (t := 83) rfl rfl hc13 ?_
    refine TT_go 0 (pc' := 83) (lv' := [(0, .ref s), (1, .ref q), (2, .int v2), (3, .int v3), (4, .int v4), (6, .int v6)]) (st' := []) (h2 := (83, I, R0 p)) (by rcases hs with rfl | rfl <;> rcases hq with rfl | rfl <;> rfl) ?_
    refine TT_sub (lv2 := [(0, .ref s), (1, .ref q), (2, .int v2), (3, .int v3), (4, .int v4)]) rfl rfl ⟨rfl, rfl, rfl, rfl, rfl, trivial⟩ ?_
    exact t_X5_grainsOf_83 hs hq hk5 hg
def g_X5_grainsOf_44 (n : Nat) (s : Nat) (q : Nat) (k5 : Int32 → Int32 → Int32 → IH → Option (Int32 × IH)) (v2 : Int32) (v3 : Int32) (v4 : Int32) (v5 : Int32) (t0 : Int32) (I : IH) : Option (Int32 × IH) :=
  if inB (2 * v4) 16 = true then
    bnd (I ((q + 4)) (Int32.toNatClampNeg (2 * v4))) fun x8 =>
    if x8 = v2 then
      bnd ((v3 + (v5 - t0))) fun x10 =>
      g_X5_grainsOf_67 n s q k5 v2 x10 v4 t0 I
    else
      g_X5_grainsOf_67 n s q k5 v2 v3 v4 t0 I
  else none
set_option maxRecDepth 20000 in
theorem t_X5_grainsOf_44 {s : Nat} (hs : s = 31 ∨ s = 33) {q : Nat} (hq : q = 5 ∨ q = 18) {p : Nat} {n : Nat} {k5 : Int32 → Int32 → Int32 → IH → Option (Int32 × IH)} (hk5 : ∀ (v2 : Int32) (v3 : Int32) (v4 : Int32) (I : IH) (w : Int32 × IH), k5 v2 v3 v4 I = some w → TT none mt_X5_grainsOf 5 [(0, .ref s), (1, .ref q), (2, .int v2), (3, .int v3), (4, .int v4)] [] (83, I, R0 p) (some (.int w.1)) (83, w.2, R0 p)) {v2 : Int32} {v3 : Int32} {v4 : Int32} {v5 : Int32} {t0 : Int32} {I : IH} {w : Int32 × IH} (hg : g_X5_grainsOf_44 n s q k5 v2 v3 v4 v5 t0 I = some w) : TT none mt_X5_grainsOf 44 [(0, .ref s), (1, .ref q), (2, .int v2), (3, .int v3), (4, .int v4), (5, .int v5)] [.int t0] (83, I, R0 p) (some (.int w.1)) (83, w.2, R0 p) := by
  unfold g_X5_grainsOf_44 at hg
  refine TT_go 6 (pc' := 54) (lv' := [(6, .int t0), (0, .ref s), (1, .ref q), (2, .int v2), (3, .int v3), (4, .int v4), (5, .int v5)]) (st' := [.int (2 * v4), .ref (q + 4)]) (h2 := (83, I, R0 p)) (by rcases hs with rfl | rfl <;> rcases hq with rfl | rfl <;> rfl) ?_
  by_cases hb7 : inB (2 * v4) 16 = true
  rotate_left
  · rw [if_neg hb7] at hg; cases hg
  rw [if_pos hb7] at hg
  refine TT_iald (n := 16) rfl (by rcases hs with rfl | rfl <;> rcases hq with rfl | rfl <;> rfl) hb7 ?_
  obtain ⟨x8, hx8⟩ : ∃ x : Int32, x = (I ((q + 4)) (Int32.toNatClampNeg (2 * v4))) := ⟨_, rfl⟩
  replace hg := bnd_use hx8 hg
  refine TT_go 0 (pc' := 55) (lv' := [(6, .int t0), (0, .ref s), (1, .ref q), (2, .int v2), (3, .int v3), (4, .int v4), (5, .int v5)]) (st' := [.int x8]) (h2 := (83, I, R0 p)) (by subst hx8; rcases hs with rfl | rfl <;> rcases hq with rfl | rfl <;> rfl) ?_
  refine TT_go 1 (pc' := 56) (lv' := [(6, .int t0), (0, .ref s), (1, .ref q), (2, .int v2), (3, .int v3), (4, .int v4), (5, .int v5)]) (st' := [.int v2, .int x8]) (h2 := (83, I, R0 p)) (by rcases hs with rfl | rfl <;> rcases hq with rfl | rfl <;> rfl) ?_
  by_cases hc9 : x8 = v2
  · rw [if_pos hc9] at hg
    refine TT_ine_f (t := 67) rfl rfl hc9 ?_
    obtain ⟨x10, hx10⟩ : ∃ x : Int32, x = ((v3 + (v5 - t0))) := ⟨_, rfl⟩
    replace hg := bnd_use hx10 hg
    refine TT_go 6 (pc' := 67) (lv' := [(3, .int x10), (6, .int t0), (0, .ref s), (1, .ref q), (2, .int v2), (4, .int v4), (5, .int v5)]) (st' := []) (h2 := (83, I, R0 p)) (by subst hx10; rcases hs with rfl | rfl <;> rcases hq with rfl | rfl <;> rfl) ?_
    refine TT_sub (lv2 := [(0, .ref s), (1, .ref q), (2, .int v2), (3, .int x10), (4, .int v4), (6, .int t0)]) rfl rfl ⟨rfl, rfl, rfl, rfl, rfl, rfl, trivial⟩ ?_
    exact t_X5_grainsOf_67 hs hq hk5 hg
  · rw [if_neg hc9] at hg
    refine TT_ine_t (t := 67) rfl rfl hc9 ?_
    refine TT_go 0 (pc' := 67) (lv' := [(6, .int t0), (0, .ref s), (1, .ref q), (2, .int v2), (3, .int v3), (4, .int v4), (5, .int v5)]) (st' := []) (h2 := (83, I, R0 p)) (by rcases hs with rfl | rfl <;> rcases hq with rfl | rfl <;> rfl) ?_
    refine TT_sub (lv2 := [(0, .ref s), (1, .ref q), (2, .int v2), (3, .int v3), (4, .int v4), (6, .int t0)]) rfl rfl ⟨rfl, rfl, rfl, rfl, rfl, rfl, trivial⟩ ?_
    exact t_X5_grainsOf_67 hs hq hk5 hg
def g_X5_grainsOf_5 (s : Nat) (q : Nat) : Nat → Int32 → Int32 → Int32 → IH → Option (Int32 × IH)
  | 0, _, _, _, _ => none
  | n + 1, v2, v3, v4, I =>
    if (I q 0) ≤ v4 then
      some (v3, I)
    else
      if inB (2 * v4) 16 = true then
        bnd (I ((s + 1)) (Int32.toNatClampNeg (2 * v4))) fun x3 =>
        if inB v4 8 = true then
          bnd (I ((q + 1)) (Int32.toNatClampNeg v4)) fun x5 =>
          if x5 = 2 then
            g_X5_grainsOf_44 n s q (g_X5_grainsOf_5 s q n) v2 v3 v4 x3 ((x3 / 2)) I
          else
            g_X5_grainsOf_44 n s q (g_X5_grainsOf_5 s q n) v2 v3 v4 x3 0 I
        else none
      else none
set_option maxRecDepth 20000 in
theorem t_X5_grainsOf_5 {s : Nat} (hs : s = 31 ∨ s = 33) {q : Nat} (hq : q = 5 ∨ q = 18) {p : Nat} : ∀ (n : Nat) (v2 : Int32) (v3 : Int32) (v4 : Int32) (I : IH) (w : Int32 × IH), g_X5_grainsOf_5 s q n v2 v3 v4 I = some w → TT none mt_X5_grainsOf 5 [(0, .ref s), (1, .ref q), (2, .int v2), (3, .int v3), (4, .int v4)] [] (83, I, R0 p) (some (.int w.1)) (83, w.2, R0 p) := by
  intro n
  induction n with
  | zero => intro v2 v3 v4 I w hg; cases hg
  | succ n ih =>
    intro v2 v3 v4 I w hg
    unfold g_X5_grainsOf_5 at hg
    refine TT_go 3 (pc' := 11) (lv' := [(0, .ref s), (1, .ref q), (2, .int v2), (3, .int v3), (4, .int v4)]) (st' := [.int (I q 0), .int v4]) (h2 := (83, I, R0 p)) (by rcases hs with rfl | rfl <;> rcases hq with rfl | rfl <;> rfl) ?_
    by_cases hc1 : (I q 0) ≤ v4
    · rw [if_pos hc1] at hg
      refine TT_ige_t (t := 118) rfl rfl hc1 ?_
      refine TT_go 1 (pc' := 119) (lv' := [(0, .ref s), (1, .ref q), (2, .int v2), (3, .int v3), (4, .int v4)]) (st' := [.int v3]) (h2 := (83, I, R0 p)) (by rcases hs with rfl | rfl <;> rcases hq with rfl | rfl <;> rfl) ?_
      have hg := Option.some.inj hg
      subst hg
      exact TT_ret rfl rfl
    · rw [if_neg hc1] at hg
      refine TT_ige_f (t := 118) rfl rfl hc1 ?_
      refine TT_go 5 (pc' := 22) (lv' := [(0, .ref s), (1, .ref q), (2, .int v2), (3, .int v3), (4, .int v4)]) (st' := [.int (2 * v4), .ref (s + 1)]) (h2 := (83, I, R0 p)) (by rcases hs with rfl | rfl <;> rcases hq with rfl | rfl <;> rfl) ?_
      by_cases hb2 : inB (2 * v4) 16 = true
      rotate_left
      · rw [if_neg hb2] at hg; cases hg
      rw [if_pos hb2] at hg
      refine TT_iald (n := 16) rfl (by rcases hs with rfl | rfl <;> rcases hq with rfl | rfl <;> rfl) hb2 ?_
      obtain ⟨x3, hx3⟩ : ∃ x : Int32, x = (I ((s + 1)) (Int32.toNatClampNeg (2 * v4))) := ⟨_, rfl⟩
      replace hg := bnd_use hx3 hg
      refine TT_go 0 (pc' := 23) (lv' := [(0, .ref s), (1, .ref q), (2, .int v2), (3, .int v3), (4, .int v4)]) (st' := [.int x3]) (h2 := (83, I, R0 p)) (by subst hx3; rcases hs with rfl | rfl <;> rcases hq with rfl | rfl <;> rfl) ?_
      refine TT_go 4 (pc' := 31) (lv' := [(5, .int x3), (0, .ref s), (1, .ref q), (2, .int v2), (3, .int v3), (4, .int v4)]) (st' := [.int v4, .ref (q + 1)]) (h2 := (83, I, R0 p)) (by rcases hs with rfl | rfl <;> rcases hq with rfl | rfl <;> rfl) ?_
      by_cases hb4 : inB v4 8 = true
      rotate_left
      · rw [if_neg hb4] at hg; cases hg
      rw [if_pos hb4] at hg
      refine TT_iald (n := 8) rfl (by rcases hs with rfl | rfl <;> rcases hq with rfl | rfl <;> rfl) hb4 ?_
      obtain ⟨x5, hx5⟩ : ∃ x : Int32, x = (I ((q + 1)) (Int32.toNatClampNeg v4)) := ⟨_, rfl⟩
      replace hg := bnd_use hx5 hg
      refine TT_go 0 (pc' := 32) (lv' := [(5, .int x3), (0, .ref s), (1, .ref q), (2, .int v2), (3, .int v3), (4, .int v4)]) (st' := [.int x5]) (h2 := (83, I, R0 p)) (by subst hx5; rcases hs with rfl | rfl <;> rcases hq with rfl | rfl <;> rfl) ?_
      refine TT_go 1 (pc' := 33) (lv' := [(5, .int x3), (0, .ref s), (1, .ref q), (2, .int v2), (3, .int v3), (4, .int v4)]) (st' := [.int 2, .int x5]) (h2 := (83, I, R0 p)) (by rcases hs with rfl | rfl <;> rcases hq with rfl | rfl <;> rfl) ?_
      by_cases hc6 : x5 = 2
      · rw [if_pos hc6] at hg
        refine TT_ine_f (t := 43) rfl rfl hc6 ?_
        refine TT_go 4 (pc' := 44) (lv' := [(5, .int x3), (0, .ref s), (1, .ref q), (2, .int v2), (3, .int v3), (4, .int v4)]) (st' := [.int (x3 / 2)]) (h2 := (83, I, R0 p)) (by rcases hs with rfl | rfl <;> rcases hq with rfl | rfl <;> rfl) ?_
        refine TT_sub (lv2 := [(0, .ref s), (1, .ref q), (2, .int v2), (3, .int v3), (4, .int v4), (5, .int x3)]) rfl rfl ⟨rfl, rfl, rfl, rfl, rfl, rfl, trivial⟩ ?_
        exact t_X5_grainsOf_44 hs hq ih hg
      · rw [if_neg hc6] at hg
        refine TT_ine_t (t := 43) rfl rfl hc6 ?_
        refine TT_go 1 (pc' := 44) (lv' := [(5, .int x3), (0, .ref s), (1, .ref q), (2, .int v2), (3, .int v3), (4, .int v4)]) (st' := [.int 0]) (h2 := (83, I, R0 p)) (by rcases hs with rfl | rfl <;> rcases hq with rfl | rfl <;> rfl) ?_
        refine TT_sub (lv2 := [(0, .ref s), (1, .ref q), (2, .int v2), (3, .int v3), (4, .int v4), (5, .int x3)]) rfl rfl ⟨rfl, rfl, rfl, rfl, rfl, rfl, trivial⟩ ?_
        exact t_X5_grainsOf_44 hs hq ih hg
def g_X5_grainsOf (n : Nat) (s : Nat) (q : Nat) (a1 : Int32) (I : IH) : Option (Int32 × IH) :=
  g_X5_grainsOf_5 s q n a1 0 0 I
set_option maxRecDepth 20000 in
theorem t_X5_grainsOf {s : Nat} (hs : s = 31 ∨ s = 33) {q : Nat} (hq : q = 5 ∨ q = 18) {p : Nat} {n : Nat} {a1 : Int32} {I : IH} {w : Int32 × IH} (hg : g_X5_grainsOf n s q a1 I = some w) : TT none mt_X5_grainsOf 0 (lv_args 0 [.ref s, .ref q, .int a1]) [] (83, I, R0 p) (some (.int w.1)) (83, w.2, R0 p) := by
  unfold g_X5_grainsOf at hg
  refine TT_go 4 (pc' := 5) (lv' := [(4, .int 0), (3, .int 0), (0, .ref s), (1, .ref q), (2, .int a1)]) (st' := []) (h2 := (83, I, R0 p)) (by rcases hs with rfl | rfl <;> rcases hq with rfl | rfl <;> rfl) ?_
  refine TT_sub (lv2 := [(0, .ref s), (1, .ref q), (2, .int a1), (3, .int 0), (4, .int 0)]) rfl rfl ⟨rfl, rfl, rfl, rfl, rfl, trivial⟩ ?_
  exact t_X5_grainsOf_5 hs hq n a1 0 0 _ _ hg
def g_X6_note (n : Nat) (a0 : Int32) (a1 : Int32) (a2 : Int32) (I : IH) : Option (IH) :=
  if (I 40 0) < 12 then
    if inB (I 40 0) 12 = true then
      bnd (up2 I 41 (Int32.toNatClampNeg (I 40 0)) a0) fun J3 =>
      if inB (J3 40 0) 12 = true then
        bnd (up2 J3 42 (Int32.toNatClampNeg (J3 40 0)) a1) fun J5 =>
        if inB (J5 40 0) 12 = true then
          bnd (up2 J5 43 (Int32.toNatClampNeg (J5 40 0)) a2) fun J7 =>
          bnd (up2 J7 40 0 ((J7 40 0) + 1)) fun J8 =>
          some J8
        else none
      else none
    else none
  else
    some I
set_option maxRecDepth 20000 in
theorem t_X6_note {p : Nat} {n : Nat} {a0 : Int32} {a1 : Int32} {a2 : Int32} {I : IH} {w : IH} (hg : g_X6_note n a0 a1 a2 I = some w) : TT none mt_X6_note 0 (lv_args 0 [.ref 40, .int a0, .int a1, .int a2]) [] (83, I, R0 p) none (83, w, R0 p) := by
  unfold g_X6_note at hg
  refine TT_go 3 (pc' := 6) (lv' := [(0, .ref 40), (1, .int a0), (2, .int a1), (3, .int a2)]) (st' := [.int 12, .int (I 40 0)]) (h2 := (83, I, R0 p)) (by rfl) ?_
  by_cases hc1 : (I 40 0) < 12
  · rw [if_pos hc1] at hg
    refine TT_ilt_t (t := 10) rfl rfl hc1 ?_
    refine TT_go 5 (pc' := 19) (lv' := [(0, .ref 40), (1, .int a0), (2, .int a1), (3, .int a2)]) (st' := [.int a0, .int (I 40 0), .ref 41]) (h2 := (83, I, R0 p)) (by rfl) ?_
    by_cases hb2 : inB (I 40 0) 12 = true
    rotate_left
    · rw [if_neg hb2] at hg; cases hg
    rw [if_pos hb2] at hg
    refine TT_iast (n := 12) rfl (by rfl) hb2 ?_
    obtain ⟨J3, hJ3⟩ : ∃ x : IH, x = (up2 I 41 (Int32.toNatClampNeg (I 40 0)) a0) := ⟨_, rfl⟩
    replace hg := bnd_use hJ3 hg
    refine TT_go 0 (pc' := 20) (lv' := [(0, .ref 40), (1, .int a0), (2, .int a1), (3, .int a2)]) (st' := []) (h2 := (83, J3, R0 p)) (by subst hJ3; rfl) ?_
    refine TT_go 5 (pc' := 29) (lv' := [(0, .ref 40), (1, .int a0), (2, .int a1), (3, .int a2)]) (st' := [.int a1, .int (J3 40 0), .ref 42]) (h2 := (83, J3, R0 p)) (by rfl) ?_
    by_cases hb4 : inB (J3 40 0) 12 = true
    rotate_left
    · rw [if_neg hb4] at hg; cases hg
    rw [if_pos hb4] at hg
    refine TT_iast (n := 12) rfl (by rfl) hb4 ?_
    obtain ⟨J5, hJ5⟩ : ∃ x : IH, x = (up2 J3 42 (Int32.toNatClampNeg (J3 40 0)) a1) := ⟨_, rfl⟩
    replace hg := bnd_use hJ5 hg
    refine TT_go 0 (pc' := 30) (lv' := [(0, .ref 40), (1, .int a0), (2, .int a1), (3, .int a2)]) (st' := []) (h2 := (83, J5, R0 p)) (by subst hJ5; rfl) ?_
    refine TT_go 5 (pc' := 39) (lv' := [(0, .ref 40), (1, .int a0), (2, .int a1), (3, .int a2)]) (st' := [.int a2, .int (J5 40 0), .ref 43]) (h2 := (83, J5, R0 p)) (by rfl) ?_
    by_cases hb6 : inB (J5 40 0) 12 = true
    rotate_left
    · rw [if_neg hb6] at hg; cases hg
    rw [if_pos hb6] at hg
    refine TT_iast (n := 12) rfl (by rfl) hb6 ?_
    obtain ⟨J7, hJ7⟩ : ∃ x : IH, x = (up2 J5 43 (Int32.toNatClampNeg (J5 40 0)) a2) := ⟨_, rfl⟩
    replace hg := bnd_use hJ7 hg
    refine TT_go 0 (pc' := 40) (lv' := [(0, .ref 40), (1, .int a0), (2, .int a1), (3, .int a2)]) (st' := []) (h2 := (83, J7, R0 p)) (by subst hJ7; rfl) ?_
    obtain ⟨J8, hJ8⟩ : ∃ x : IH, x = (up2 J7 40 0 ((J7 40 0) + 1)) := ⟨_, rfl⟩
    replace hg := bnd_use hJ8 hg
    refine TT_go 6 (pc' := 50) (lv' := [(0, .ref 40), (1, .int a0), (2, .int a1), (3, .int a2)]) (st' := []) (h2 := (83, J8, R0 p)) (by subst hJ8; rfl) ?_
    have hg := Option.some.inj hg
    subst hg
    exact TT_ret rfl rfl
  · rw [if_neg hc1] at hg
    refine TT_ilt_f (t := 10) rfl rfl hc1 ?_
    refine TT_go 0 (pc' := 9) (lv' := [(0, .ref 40), (1, .int a0), (2, .int a1), (3, .int a2)]) (st' := []) (h2 := (83, I, R0 p)) (by rfl) ?_
    have hg := Option.some.inj hg
    subst hg
    exact TT_ret rfl rfl
def g_X6_missing_39 (n : Nat) (k5 : Int32 → Int32 → Int32 → Int32 → IH → Option (Int32 × IH)) (v1 : Int32) (v2 : Int32) (v3 : Int32) (v4 : Int32) (I : IH) : Option (Int32 × IH) :=
  bnd (v4 + 1) fun x8 =>
  k5 v1 v2 v3 x8 I
set_option maxRecDepth 20000 in
theorem t_X6_missing_39 {p : Nat} {n : Nat} {k5 : Int32 → Int32 → Int32 → Int32 → IH → Option (Int32 × IH)} (hk5 : ∀ (v1 : Int32) (v2 : Int32) (v3 : Int32) (v4 : Int32) (I : IH) (w : Int32 × IH), k5 v1 v2 v3 v4 I = some w → TT none mt_X6_missing 5 [(0, .ref 40), (1, .int v1), (2, .int v2), (3, .int v3), (4, .int v4)] [] (83, I, R0 p) (some (.int w.1)) (83, w.2, R0 p)) {v1 : Int32} {v2 : Int32} {v3 : Int32} {v4 : Int32} {I : IH} {w : Int32 × IH} (hg : g_X6_missing_39 n k5 v1 v2 v3 v4 I = some w) : TT none mt_X6_missing 39 [(0, .ref 40), (1, .int v1), (2, .int v2), (3, .int v3), (4, .int v4)] [] (83, I, R0 p) (some (.int w.1)) (83, w.2, R0 p) := by
  unfold g_X6_missing_39 at hg
  obtain ⟨x8, hx8⟩ : ∃ x : Int32, x = (v4 + 1) := ⟨_, rfl⟩
  replace hg := bnd_use hx8 hg
  refine TT_go 1 (pc' := 42) (lv' := [(4, .int x8), (0, .ref 40), (1, .int v1), (2, .int v2), (3, .int v3)]) (st' := []) (h2 := (83, I, R0 p)) (by subst hx8; rfl) ?_
  refine TT_go 1 (pc' := 5) (lv' := [(4, .int x8), (0, .ref 40), (1, .int v1), (2, .int v2), (3, .int v3)]) (st' := []) (h2 := (83, I, R0 p)) (by rfl) ?_
  refine TT_sub (lv2 := [(0, .ref 40), (1, .int v1), (2, .int v2), (3, .int v3), (4, .int x8)]) rfl rfl ⟨rfl, rfl, rfl, rfl, rfl, trivial⟩ ?_
  exact hk5 v1 v2 v3 x8 _ _ hg
def g_X6_missing_5 : Nat → Int32 → Int32 → Int32 → Int32 → IH → Option (Int32 × IH)
  | 0, _, _, _, _, _ => none
  | n + 1, v1, v2, v3, v4, I =>
    if (I 40 0) ≤ v4 then
      some (v3, I)
    else
      if inB v4 12 = true then
        bnd (I 41 (Int32.toNatClampNeg v4)) fun x3 =>
        if x3 = v1 then
          if inB v4 12 = true then
            bnd (I 43 (Int32.toNatClampNeg v4)) fun x6 =>
            bnd ((if v3 < (v2 - x6) then (v2 - x6) else v3)) fun x7 =>
            g_X6_missing_39 n (g_X6_missing_5 n) v1 v2 x7 v4 I
          else none
        else
          g_X6_missing_39 n (g_X6_missing_5 n) v1 v2 v3 v4 I
      else none
set_option maxRecDepth 20000 in
theorem t_X6_missing_5 {p : Nat} : ∀ (n : Nat) (v1 : Int32) (v2 : Int32) (v3 : Int32) (v4 : Int32) (I : IH) (w : Int32 × IH), g_X6_missing_5 n v1 v2 v3 v4 I = some w → TT none mt_X6_missing 5 [(0, .ref 40), (1, .int v1), (2, .int v2), (3, .int v3), (4, .int v4)] [] (83, I, R0 p) (some (.int w.1)) (83, w.2, R0 p) := by
  intro n
  induction n with
  | zero => intro v1 v2 v3 v4 I w hg; cases hg
  | succ n ih =>
    intro v1 v2 v3 v4 I w hg
    unfold g_X6_missing_5 at hg
    refine TT_go 3 (pc' := 11) (lv' := [(0, .ref 40), (1, .int v1), (2, .int v2), (3, .int v3), (4, .int v4)]) (st' := [.int (I 40 0), .int v4]) (h2 := (83, I, R0 p)) (by rfl) ?_
    by_cases hc1 : (I 40 0) ≤ v4
    · rw [if_pos hc1] at hg
      refine TT_ige_t (t := 45) rfl rfl hc1 ?_
      refine TT_go 1 (pc' := 46) (lv' := [(0, .ref 40), (1, .int v1), (2, .int v2), (3, .int v3), (4, .int v4)]) (st' := [.int v3]) (h2 := (83, I, R0 p)) (by rfl) ?_
      have hg := Option.some.inj hg
      subst hg
      exact TT_ret rfl rfl
    · rw [if_neg hc1] at hg
      refine TT_ige_f (t := 45) rfl rfl hc1 ?_
      refine TT_go 3 (pc' := 20) (lv' := [(0, .ref 40), (1, .int v1), (2, .int v2), (3, .int v3), (4, .int v4)]) (st' := [.int v4, .ref 41]) (h2 := (83, I, R0 p)) (by rfl) ?_
      by_cases hb2 : inB v4 12 = true
      rotate_left
      · rw [if_neg hb2] at hg; cases hg
      rw [if_pos hb2] at hg
      refine TT_iald (n := 12) rfl (by rfl) hb2 ?_
      obtain ⟨x3, hx3⟩ : ∃ x : Int32, x = (I 41 (Int32.toNatClampNeg v4)) := ⟨_, rfl⟩
      replace hg := bnd_use hx3 hg
      refine TT_go 0 (pc' := 21) (lv' := [(0, .ref 40), (1, .int v1), (2, .int v2), (3, .int v3), (4, .int v4)]) (st' := [.int x3]) (h2 := (83, I, R0 p)) (by subst hx3; rfl) ?_
      refine TT_go 1 (pc' := 22) (lv' := [(0, .ref 40), (1, .int v1), (2, .int v2), (3, .int v3), (4, .int v4)]) (st' := [.int v1, .int x3]) (h2 := (83, I, R0 p)) (by rfl) ?_
      by_cases hc4 : x3 = v1
      · rw [if_pos hc4] at hg
        refine TT_ine_f (t := 39) rfl rfl hc4 ?_
        refine TT_go 5 (pc' := 33) (lv' := [(0, .ref 40), (1, .int v1), (2, .int v2), (3, .int v3), (4, .int v4)]) (st' := [.int v4, .ref 43, .int v2, .int v3]) (h2 := (83, I, R0 p)) (by rfl) ?_
        by_cases hb5 : inB v4 12 = true
        rotate_left
        · rw [if_neg hb5] at hg; cases hg
        rw [if_pos hb5] at hg
        refine TT_iald (n := 12) rfl (by rfl) hb5 ?_
        obtain ⟨x6, hx6⟩ : ∃ x : Int32, x = (I 43 (Int32.toNatClampNeg v4)) := ⟨_, rfl⟩
        replace hg := bnd_use hx6 hg
        refine TT_go 0 (pc' := 34) (lv' := [(0, .ref 40), (1, .int v1), (2, .int v2), (3, .int v3), (4, .int v4)]) (st' := [.int x6, .int v2, .int v3]) (h2 := (83, I, R0 p)) (by subst hx6; rfl) ?_
        obtain ⟨x7, hx7⟩ : ∃ x : Int32, x = ((if v3 < (v2 - x6) then (v2 - x6) else v3)) := ⟨_, rfl⟩
        replace hg := bnd_use hx7 hg
        refine TT_go 3 (pc' := 39) (lv' := [(3, .int x7), (0, .ref 40), (1, .int v1), (2, .int v2), (4, .int v4)]) (st' := []) (h2 := (83, I, R0 p)) (by subst hx7; rfl) ?_
        refine TT_sub (lv2 := [(0, .ref 40), (1, .int v1), (2, .int v2), (3, .int x7), (4, .int v4)]) rfl rfl ⟨rfl, rfl, rfl, rfl, rfl, trivial⟩ ?_
        exact t_X6_missing_39 ih hg
      · rw [if_neg hc4] at hg
        refine TT_ine_t (t := 39) rfl rfl hc4 ?_
        refine TT_go 0 (pc' := 39) (lv' := [(0, .ref 40), (1, .int v1), (2, .int v2), (3, .int v3), (4, .int v4)]) (st' := []) (h2 := (83, I, R0 p)) (by rfl) ?_
        refine TT_sub (lv2 := [(0, .ref 40), (1, .int v1), (2, .int v2), (3, .int v3), (4, .int v4)]) rfl rfl ⟨rfl, rfl, rfl, rfl, rfl, trivial⟩ ?_
        exact t_X6_missing_39 ih hg
def g_X6_missing (n : Nat) (a0 : Int32) (a1 : Int32) (I : IH) : Option (Int32 × IH) :=
  g_X6_missing_5 n a0 a1 0 0 I
set_option maxRecDepth 20000 in
theorem t_X6_missing {p : Nat} {n : Nat} {a0 : Int32} {a1 : Int32} {I : IH} {w : Int32 × IH} (hg : g_X6_missing n a0 a1 I = some w) : TT none mt_X6_missing 0 (lv_args 0 [.ref 40, .int a0, .int a1]) [] (83, I, R0 p) (some (.int w.1)) (83, w.2, R0 p) := by
  unfold g_X6_missing at hg
  refine TT_go 4 (pc' := 5) (lv' := [(4, .int 0), (3, .int 0), (0, .ref 40), (1, .int a0), (2, .int a1)]) (st' := []) (h2 := (83, I, R0 p)) (by rfl) ?_
  refine TT_sub (lv2 := [(0, .ref 40), (1, .int a0), (2, .int a1), (3, .int 0), (4, .int 0)]) rfl rfl ⟨rfl, rfl, rfl, rfl, rfl, trivial⟩ ?_
  exact t_X6_missing_5 n a0 a1 0 0 _ _ hg
def g_X6_till_62 (n : Nat) (k6 : Int32 → Int32 → Int32 → Int32 → IH → Option (Int32 × IH)) (v1 : Int32) (v2 : Int32) (v3 : Int32) (v4 : Int32) (I : IH) : Option (Int32 × IH) :=
  bnd (v4 + 1) fun x8 =>
  k6 v1 v2 v3 x8 I
set_option maxRecDepth 20000 in
theorem t_X6_till_62 {p : Nat} {n : Nat} {k6 : Int32 → Int32 → Int32 → Int32 → IH → Option (Int32 × IH)} (hk6 : ∀ (v1 : Int32) (v2 : Int32) (v3 : Int32) (v4 : Int32) (I : IH) (w : Int32 × IH), k6 v1 v2 v3 v4 I = some w → TT none mt_X6_till 6 [(0, .ref 40), (1, .int v1), (2, .int v2), (3, .int v3), (4, .int v4)] [] (83, I, R0 p) (some (.int w.1)) (83, w.2, R0 p)) {v1 : Int32} {v2 : Int32} {v3 : Int32} {v4 : Int32} {I : IH} {w : Int32 × IH} (hg : g_X6_till_62 n k6 v1 v2 v3 v4 I = some w) : TT none mt_X6_till 62 [(0, .ref 40), (1, .int v1), (2, .int v2), (3, .int v3), (4, .int v4)] [] (83, I, R0 p) (some (.int w.1)) (83, w.2, R0 p) := by
  unfold g_X6_till_62 at hg
  obtain ⟨x8, hx8⟩ : ∃ x : Int32, x = (v4 + 1) := ⟨_, rfl⟩
  replace hg := bnd_use hx8 hg
  refine TT_go 1 (pc' := 65) (lv' := [(4, .int x8), (0, .ref 40), (1, .int v1), (2, .int v2), (3, .int v3)]) (st' := []) (h2 := (83, I, R0 p)) (by subst hx8; rfl) ?_
  refine TT_go 1 (pc' := 6) (lv' := [(4, .int x8), (0, .ref 40), (1, .int v1), (2, .int v2), (3, .int v3)]) (st' := []) (h2 := (83, I, R0 p)) (by rfl) ?_
  refine TT_sub (lv2 := [(0, .ref 40), (1, .int v1), (2, .int v2), (3, .int v3), (4, .int x8)]) rfl rfl ⟨rfl, rfl, rfl, rfl, rfl, trivial⟩ ?_
  exact hk6 v1 v2 v3 x8 _ _ hg
def g_X6_till_54 (n : Nat) (k6 : Int32 → Int32 → Int32 → Int32 → IH → Option (Int32 × IH)) (v1 : Int32) (v2 : Int32) (v4 : Int32) (I : IH) : Option (Int32 × IH) :=
  if inB v4 12 = true then
    bnd (I 42 (Int32.toNatClampNeg v4)) fun x11 =>
    g_X6_till_62 n k6 v1 v2 x11 v4 I
  else none
set_option maxRecDepth 20000 in
theorem t_X6_till_54 {p : Nat} {n : Nat} {k6 : Int32 → Int32 → Int32 → Int32 → IH → Option (Int32 × IH)} (hk6 : ∀ (v1 : Int32) (v2 : Int32) (v3 : Int32) (v4 : Int32) (I : IH) (w : Int32 × IH), k6 v1 v2 v3 v4 I = some w → TT none mt_X6_till 6 [(0, .ref 40), (1, .int v1), (2, .int v2), (3, .int v3), (4, .int v4)] [] (83, I, R0 p) (some (.int w.1)) (83, w.2, R0 p)) {v1 : Int32} {v2 : Int32} {v4 : Int32} {I : IH} {w : Int32 × IH} (hg : g_X6_till_54 n k6 v1 v2 v4 I = some w) : TT none mt_X6_till 54 [(0, .ref 40), (1, .int v1), (2, .int v2), (4, .int v4)] [] (83, I, R0 p) (some (.int w.1)) (83, w.2, R0 p) := by
  unfold g_X6_till_54 at hg
  refine TT_go 3 (pc' := 60) (lv' := [(0, .ref 40), (1, .int v1), (2, .int v2), (4, .int v4)]) (st' := [.int v4, .ref 42]) (h2 := (83, I, R0 p)) (by rfl) ?_
  by_cases hb10 : inB v4 12 = true
  rotate_left
  · rw [if_neg hb10] at hg; cases hg
  rw [if_pos hb10] at hg
  refine TT_iald (n := 12) rfl (by rfl) hb10 ?_
  obtain ⟨x11, hx11⟩ : ∃ x : Int32, x = (I 42 (Int32.toNatClampNeg v4)) := ⟨_, rfl⟩
  replace hg := bnd_use hx11 hg
  refine TT_go 0 (pc' := 61) (lv' := [(0, .ref 40), (1, .int v1), (2, .int v2), (4, .int v4)]) (st' := [.int x11]) (h2 := (83, I, R0 p)) (by subst hx11; rfl) ?_
  refine TT_go 1 (pc' := 62) (lv' := [(3, .int x11), (0, .ref 40), (1, .int v1), (2, .int v2), (4, .int v4)]) (st' := []) (h2 := (83, I, R0 p)) (by rfl) ?_
  refine TT_sub (lv2 := [(0, .ref 40), (1, .int v1), (2, .int v2), (3, .int x11), (4, .int v4)]) rfl rfl ⟨rfl, rfl, rfl, rfl, rfl, trivial⟩ ?_
  exact t_X6_till_62 hk6 hg
def g_X6_till_6 : Nat → Int32 → Int32 → Int32 → Int32 → IH → Option (Int32 × IH)
  | 0, _, _, _, _, _ => none
  | n + 1, v1, v2, v3, v4, I =>
    if (I 40 0) ≤ v4 then
      some (v3, I)
    else
      if inB v4 12 = true then
        bnd (I 41 (Int32.toNatClampNeg v4)) fun x3 =>
        if x3 = v1 then
          if inB v4 12 = true then
            bnd (I 43 (Int32.toNatClampNeg v4)) fun x6 =>
            if v2 ≤ x6 then
              g_X6_till_62 n (g_X6_till_6 n) v1 v2 v3 v4 I
            else
              if v3 = (-4) then
                g_X6_till_54 n (g_X6_till_6 n) v1 v2 v4 I
              else
                if inB v4 12 = true then
                  bnd (I 42 (Int32.toNatClampNeg v4)) fun x13 =>
                  if v3 ≤ x13 then
                    g_X6_till_62 n (g_X6_till_6 n) v1 v2 v3 v4 I
                  else
                    g_X6_till_54 n (g_X6_till_6 n) v1 v2 v4 I
                else none
          else none
        else
          g_X6_till_62 n (g_X6_till_6 n) v1 v2 v3 v4 I
      else none
set_option maxRecDepth 20000 in
theorem t_X6_till_6 {p : Nat} : ∀ (n : Nat) (v1 : Int32) (v2 : Int32) (v3 : Int32) (v4 : Int32) (I : IH) (w : Int32 × IH), g_X6_till_6 n v1 v2 v3 v4 I = some w → TT none mt_X6_till 6 [(0, .ref 40), (1, .int v1), (2, .int v2), (3, .int v3), (4, .int v4)] [] (83, I, R0 p) (some (.int w.1)) (83, w.2, R0 p) := by
  intro n
  induction n with
  | zero => intro v1 v2 v3 v4 I w hg; cases hg
  | succ n ih =>
    intro v1 v2 v3 v4 I w hg
    unfold g_X6_till_6 at hg
    refine TT_go 3 (pc' := 12) (lv' := [(0, .ref 40), (1, .int v1), (2, .int v2), (3, .int v3), (4, .int v4)]) (st' := [.int (I 40 0), .int v4]) (h2 := (83, I, R0 p)) (by rfl) ?_
    by_cases hc1 : (I 40 0) ≤ v4
    · rw [if_pos hc1] at hg
      refine TT_ige_t (t := 68) rfl rfl hc1 ?_
      refine TT_go 1 (pc' := 69) (lv' := [(0, .ref 40), (1, .int v1), (2, .int v2), (3, .int v3), (4, .int v4)]) (st' := [.int v3]) (h2 := (83, I, R0 p)) (by rfl) ?_
      have hg := Option.some.inj hg
      subst hg
      exact TT_ret rfl rfl
    · rw [if_neg hc1] at hg
      refine TT_ige_f (t := 68) rfl rfl hc1 ?_
      refine TT_go 3 (pc' := 21) (lv' := [(0, .ref 40), (1, .int v1), (2, .int v2), (3, .int v3), (4, .int v4)]) (st' := [.int v4, .ref 41]) (h2 := (83, I, R0 p)) (by rfl) ?_
      by_cases hb2 : inB v4 12 = true
      rotate_left
      · rw [if_neg hb2] at hg; cases hg
      rw [if_pos hb2] at hg
      refine TT_iald (n := 12) rfl (by rfl) hb2 ?_
      obtain ⟨x3, hx3⟩ : ∃ x : Int32, x = (I 41 (Int32.toNatClampNeg v4)) := ⟨_, rfl⟩
      replace hg := bnd_use hx3 hg
      refine TT_go 0 (pc' := 22) (lv' := [(0, .ref 40), (1, .int v1), (2, .int v2), (3, .int v3), (4, .int v4)]) (st' := [.int x3]) (h2 := (83, I, R0 p)) (by subst hx3; rfl) ?_
      refine TT_go 1 (pc' := 23) (lv' := [(0, .ref 40), (1, .int v1), (2, .int v2), (3, .int v3), (4, .int v4)]) (st' := [.int v1, .int x3]) (h2 := (83, I, R0 p)) (by rfl) ?_
      by_cases hc4 : x3 = v1
      · rw [if_pos hc4] at hg
        refine TT_ine_f (t := 62) rfl rfl hc4 ?_
        refine TT_go 3 (pc' := 32) (lv' := [(0, .ref 40), (1, .int v1), (2, .int v2), (3, .int v3), (4, .int v4)]) (st' := [.int v4, .ref 43]) (h2 := (83, I, R0 p)) (by rfl) ?_
        by_cases hb5 : inB v4 12 = true
        rotate_left
        · rw [if_neg hb5] at hg; cases hg
        rw [if_pos hb5] at hg
        refine TT_iald (n := 12) rfl (by rfl) hb5 ?_
        obtain ⟨x6, hx6⟩ : ∃ x : Int32, x = (I 43 (Int32.toNatClampNeg v4)) := ⟨_, rfl⟩
        replace hg := bnd_use hx6 hg
        refine TT_go 0 (pc' := 33) (lv' := [(0, .ref 40), (1, .int v1), (2, .int v2), (3, .int v3), (4, .int v4)]) (st' := [.int x6]) (h2 := (83, I, R0 p)) (by subst hx6; rfl) ?_
        refine TT_go 1 (pc' := 34) (lv' := [(0, .ref 40), (1, .int v1), (2, .int v2), (3, .int v3), (4, .int v4)]) (st' := [.int v2, .int x6]) (h2 := (83, I, R0 p)) (by rfl) ?_
        by_cases hc7 : v2 ≤ x6
        · rw [if_pos hc7] at hg
          refine TT_ige_t (t := 62) rfl rfl hc7 ?_
          refine TT_go 0 (pc' := 62) (lv' := [(0, .ref 40), (1, .int v1), (2, .int v2), (3, .int v3), (4, .int v4)]) (st' := []) (h2 := (83, I, R0 p)) (by rfl) ?_
          refine TT_sub (lv2 := [(0, .ref 40), (1, .int v1), (2, .int v2), (3, .int v3), (4, .int v4)]) rfl rfl ⟨rfl, rfl, rfl, rfl, rfl, trivial⟩ ?_
          exact t_X6_till_62 ih hg
        · rw [if_neg hc7] at hg
          refine TT_ige_f (t := 62) rfl rfl hc7 ?_
          refine TT_go 2 (pc' := 40) (lv' := [(0, .ref 40), (1, .int v1), (2, .int v2), (3, .int v3), (4, .int v4)]) (st' := [.int (-4), .int v3]) (h2 := (83, I, R0 p)) (by rfl) ?_
          by_cases hc9 : v3 = (-4)
          · rw [if_pos hc9] at hg
            refine TT_ieq_t (t := 54) rfl rfl hc9 ?_
            refine TT_go 0 (pc' := 54) (lv' := [(0, .ref 40), (1, .int v1), (2, .int v2), (3, .int v3), (4, .int v4)]) (st' := []) (h2 := (83, I, R0 p)) (by rfl) ?_
            refine TT_sub (lv2 := [(0, .ref 40), (1, .int v1), (2, .int v2), (4, .int v4)]) rfl rfl ⟨rfl, rfl, rfl, rfl, trivial⟩ ?_
            exact t_X6_till_54 ih hg
          · rw [if_neg hc9] at hg
            refine TT_ieq_f (t := 54) rfl rfl hc9 ?_
            refine TT_go 3 (pc' := 49) (lv' := [(0, .ref 40), (1, .int v1), (2, .int v2), (3, .int v3), (4, .int v4)]) (st' := [.int v4, .ref 42]) (h2 := (83, I, R0 p)) (by rfl) ?_
            by_cases hb12 : inB v4 12 = true
            rotate_left
            · rw [if_neg hb12] at hg; cases hg
            rw [if_pos hb12] at hg
            refine TT_iald (n := 12) rfl (by rfl) hb12 ?_
            obtain ⟨x13, hx13⟩ : ∃ x : Int32, x = (I 42 (Int32.toNatClampNeg v4)) := ⟨_, rfl⟩
            replace hg := bnd_use hx13 hg
            refine TT_go 0 (pc' := 50) (lv' := [(0, .ref 40), (1, .int v1), (2, .int v2), (3, .int v3), (4, .int v4)]) (st' := [.int x13]) (h2 := (83, I, R0 p)) (by subst hx13; rfl) ?_
            refine TT_go 1 (pc' := 51) (lv' := [(0, .ref 40), (1, .int v1), (2, .int v2), (3, .int v3), (4, .int v4)]) (st' := [.int v3, .int x13]) (h2 := (83, I, R0 p)) (by rfl) ?_
            by_cases hc14 : v3 ≤ x13
            · rw [if_pos hc14] at hg
              refine TT_ige_t (t := 62) rfl rfl hc14 ?_
              refine TT_go 0 (pc' := 62) (lv' := [(0, .ref 40), (1, .int v1), (2, .int v2), (3, .int v3), (4, .int v4)]) (st' := []) (h2 := (83, I, R0 p)) (by rfl) ?_
              refine TT_sub (lv2 := [(0, .ref 40), (1, .int v1), (2, .int v2), (3, .int v3), (4, .int v4)]) rfl rfl ⟨rfl, rfl, rfl, rfl, rfl, trivial⟩ ?_
              exact t_X6_till_62 ih hg
            · rw [if_neg hc14] at hg
              refine TT_ige_f (t := 62) rfl rfl hc14 ?_
              refine TT_go 0 (pc' := 54) (lv' := [(0, .ref 40), (1, .int v1), (2, .int v2), (3, .int v3), (4, .int v4)]) (st' := []) (h2 := (83, I, R0 p)) (by rfl) ?_
              refine TT_sub (lv2 := [(0, .ref 40), (1, .int v1), (2, .int v2), (4, .int v4)]) rfl rfl ⟨rfl, rfl, rfl, rfl, trivial⟩ ?_
              exact t_X6_till_54 ih hg
      · rw [if_neg hc4] at hg
        refine TT_ine_t (t := 62) rfl rfl hc4 ?_
        refine TT_go 0 (pc' := 62) (lv' := [(0, .ref 40), (1, .int v1), (2, .int v2), (3, .int v3), (4, .int v4)]) (st' := []) (h2 := (83, I, R0 p)) (by rfl) ?_
        refine TT_sub (lv2 := [(0, .ref 40), (1, .int v1), (2, .int v2), (3, .int v3), (4, .int v4)]) rfl rfl ⟨rfl, rfl, rfl, rfl, rfl, trivial⟩ ?_
        exact t_X6_till_62 ih hg
def g_X6_till (n : Nat) (a0 : Int32) (a1 : Int32) (I : IH) : Option (Int32 × IH) :=
  g_X6_till_6 n a0 a1 ((-4)) 0 I
set_option maxRecDepth 20000 in
theorem t_X6_till {p : Nat} {n : Nat} {a0 : Int32} {a1 : Int32} {I : IH} {w : Int32 × IH} (hg : g_X6_till n a0 a1 I = some w) : TT none mt_X6_till 0 (lv_args 0 [.ref 40, .int a0, .int a1]) [] (83, I, R0 p) (some (.int w.1)) (83, w.2, R0 p) := by
  unfold g_X6_till at hg
  refine TT_go 4 (pc' := 6) (lv' := [(4, .int 0), (3, .int (-4)), (0, .ref 40), (1, .int a0), (2, .int a1)]) (st' := []) (h2 := (83, I, R0 p)) (by rfl) ?_
  refine TT_sub (lv2 := [(0, .ref 40), (1, .int a0), (2, .int a1), (3, .int (-4)), (4, .int 0)]) rfl rfl ⟨rfl, rfl, rfl, rfl, rfl, trivial⟩ ?_
  exact t_X6_till_6 n a0 a1 ((-4)) 0 _ _ hg
def g_X6_since_70 (n : Nat) (k14 : Int32 → Int32 → Int32 → Int32 → Int32 → IH → Option (Int32 × IH)) (v1 : Int32) (v2 : Int32) (v3 : Int32) (v4 : Int32) (v5 : Int32) (I : IH) : Option (Int32 × IH) :=
  bnd (v5 + 1) fun x12 =>
  k14 v1 v2 v3 v4 x12 I
set_option maxRecDepth 20000 in
theorem t_X6_since_70 {p : Nat} {n : Nat} {k14 : Int32 → Int32 → Int32 → Int32 → Int32 → IH → Option (Int32 × IH)} (hk14 : ∀ (v1 : Int32) (v2 : Int32) (v3 : Int32) (v4 : Int32) (v5 : Int32) (I : IH) (w : Int32 × IH), k14 v1 v2 v3 v4 v5 I = some w → TT none mt_X6_since 14 [(0, .ref 40), (1, .int v1), (2, .int v2), (3, .int v3), (4, .int v4), (5, .int v5)] [] (83, I, R0 p) (some (.int w.1)) (83, w.2, R0 p)) {v1 : Int32} {v2 : Int32} {v3 : Int32} {v4 : Int32} {v5 : Int32} {I : IH} {w : Int32 × IH} (hg : g_X6_since_70 n k14 v1 v2 v3 v4 v5 I = some w) : TT none mt_X6_since 70 [(0, .ref 40), (1, .int v1), (2, .int v2), (3, .int v3), (4, .int v4), (5, .int v5)] [] (83, I, R0 p) (some (.int w.1)) (83, w.2, R0 p) := by
  unfold g_X6_since_70 at hg
  obtain ⟨x12, hx12⟩ : ∃ x : Int32, x = (v5 + 1) := ⟨_, rfl⟩
  replace hg := bnd_use hx12 hg
  refine TT_go 1 (pc' := 73) (lv' := [(5, .int x12), (0, .ref 40), (1, .int v1), (2, .int v2), (3, .int v3), (4, .int v4)]) (st' := []) (h2 := (83, I, R0 p)) (by subst hx12; rfl) ?_
  refine TT_go 1 (pc' := 14) (lv' := [(5, .int x12), (0, .ref 40), (1, .int v1), (2, .int v2), (3, .int v3), (4, .int v4)]) (st' := []) (h2 := (83, I, R0 p)) (by rfl) ?_
  refine TT_sub (lv2 := [(0, .ref 40), (1, .int v1), (2, .int v2), (3, .int v3), (4, .int v4), (5, .int x12)]) rfl rfl ⟨rfl, rfl, rfl, rfl, rfl, rfl, trivial⟩ ?_
  exact hk14 v1 v2 v3 v4 x12 _ _ hg
def g_X6_since_14 : Nat → Int32 → Int32 → Int32 → Int32 → Int32 → IH → Option (Int32 × IH)
  | 0, _, _, _, _, _, _ => none
  | n + 1, v1, v2, v3, v4, v5, I =>
    if (I 40 0) ≤ v5 then
      some (v4, I)
    else
      if inB v5 12 = true then
        bnd (I 41 (Int32.toNatClampNeg v5)) fun x7 =>
        if x7 = v1 then
          if inB v5 12 = true then
            bnd (I 43 (Int32.toNatClampNeg v5)) fun x10 =>
            if x10 < v2 then
              g_X6_since_70 n (g_X6_since_14 n) v1 v2 v3 v4 v5 I
            else
              if inB v5 12 = true then
                bnd (I 42 (Int32.toNatClampNeg v5)) fun x14 =>
                if v3 ≤ x14 then
                  g_X6_since_70 n (g_X6_since_14 n) v1 v2 v3 v4 v5 I
                else
                  if inB v5 12 = true then
                    bnd (I 42 (Int32.toNatClampNeg v5)) fun x17 =>
                    bnd ((if v4 < x17 then x17 else v4)) fun x18 =>
                    g_X6_since_70 n (g_X6_since_14 n) v1 v2 v3 x18 v5 I
                  else none
              else none
          else none
        else
          g_X6_since_70 n (g_X6_since_14 n) v1 v2 v3 v4 v5 I
      else none
set_option maxRecDepth 20000 in
theorem t_X6_since_14 {p : Nat} : ∀ (n : Nat) (v1 : Int32) (v2 : Int32) (v3 : Int32) (v4 : Int32) (v5 : Int32) (I : IH) (w : Int32 × IH), g_X6_since_14 n v1 v2 v3 v4 v5 I = some w → TT none mt_X6_since 14 [(0, .ref 40), (1, .int v1), (2, .int v2), (3, .int v3), (4, .int v4), (5, .int v5)] [] (83, I, R0 p) (some (.int w.1)) (83, w.2, R0 p) := by
  intro n
  induction n with
  | zero => intro v1 v2 v3 v4 v5 I w hg; cases hg
  | succ n ih =>
    intro v1 v2 v3 v4 v5 I w hg
    unfold g_X6_since_14 at hg
    refine TT_go 3 (pc' := 20) (lv' := [(0, .ref 40), (1, .int v1), (2, .int v2), (3, .int v3), (4, .int v4), (5, .int v5)]) (st' := [.int (I 40 0), .int v5]) (h2 := (83, I, R0 p)) (by rfl) ?_
    by_cases hc5 : (I 40 0) ≤ v5
    · rw [if_pos hc5] at hg
      refine TT_ige_t (t := 76) rfl rfl hc5 ?_
      refine TT_go 1 (pc' := 78) (lv' := [(0, .ref 40), (1, .int v1), (2, .int v2), (3, .int v3), (4, .int v4), (5, .int v5)]) (st' := [.int v4]) (h2 := (83, I, R0 p)) (by rfl) ?_
      have hg := Option.some.inj hg
      subst hg
      exact TT_ret rfl rfl
    · rw [if_neg hc5] at hg
      refine TT_ige_f (t := 76) rfl rfl hc5 ?_
      refine TT_go 3 (pc' := 29) (lv' := [(0, .ref 40), (1, .int v1), (2, .int v2), (3, .int v3), (4, .int v4), (5, .int v5)]) (st' := [.int v5, .ref 41]) (h2 := (83, I, R0 p)) (by rfl) ?_
      by_cases hb6 : inB v5 12 = true
      rotate_left
      · rw [if_neg hb6] at hg; cases hg
      rw [if_pos hb6] at hg
      refine TT_iald (n := 12) rfl (by rfl) hb6 ?_
      obtain ⟨x7, hx7⟩ : ∃ x : Int32, x = (I 41 (Int32.toNatClampNeg v5)) := ⟨_, rfl⟩
      replace hg := bnd_use hx7 hg
      refine TT_go 0 (pc' := 30) (lv' := [(0, .ref 40), (1, .int v1), (2, .int v2), (3, .int v3), (4, .int v4), (5, .int v5)]) (st' := [.int x7]) (h2 := (83, I, R0 p)) (by subst hx7; rfl) ?_
      refine TT_go 1 (pc' := 31) (lv' := [(0, .ref 40), (1, .int v1), (2, .int v2), (3, .int v3), (4, .int v4), (5, .int v5)]) (st' := [.int v1, .int x7]) (h2 := (83, I, R0 p)) (by rfl) ?_
      by_cases hc8 : x7 = v1
      · rw [if_pos hc8] at hg
        refine TT_ine_f (t := 70) rfl rfl hc8 ?_
        refine TT_go 3 (pc' := 40) (lv' := [(0, .ref 40), (1, .int v1), (2, .int v2), (3, .int v3), (4, .int v4), (5, .int v5)]) (st' := [.int v5, .ref 43]) (h2 := (83, I, R0 p)) (by rfl) ?_
        by_cases hb9 : inB v5 12 = true
        rotate_left
        · rw [if_neg hb9] at hg; cases hg
        rw [if_pos hb9] at hg
        refine TT_iald (n := 12) rfl (by rfl) hb9 ?_
        obtain ⟨x10, hx10⟩ : ∃ x : Int32, x = (I 43 (Int32.toNatClampNeg v5)) := ⟨_, rfl⟩
        replace hg := bnd_use hx10 hg
        refine TT_go 0 (pc' := 41) (lv' := [(0, .ref 40), (1, .int v1), (2, .int v2), (3, .int v3), (4, .int v4), (5, .int v5)]) (st' := [.int x10]) (h2 := (83, I, R0 p)) (by subst hx10; rfl) ?_
        refine TT_go 1 (pc' := 42) (lv' := [(0, .ref 40), (1, .int v1), (2, .int v2), (3, .int v3), (4, .int v4), (5, .int v5)]) (st' := [.int v2, .int x10]) (h2 := (83, I, R0 p)) (by rfl) ?_
        by_cases hc11 : x10 < v2
        · rw [if_pos hc11] at hg
          refine TT_ilt_t (t := 70) rfl rfl hc11 ?_
          refine TT_go 0 (pc' := 70) (lv' := [(0, .ref 40), (1, .int v1), (2, .int v2), (3, .int v3), (4, .int v4), (5, .int v5)]) (st' := []) (h2 := (83, I, R0 p)) (by rfl) ?_
          refine TT_sub (lv2 := [(0, .ref 40), (1, .int v1), (2, .int v2), (3, .int v3), (4, .int v4), (5, .int v5)]) rfl rfl ⟨rfl, rfl, rfl, rfl, rfl, rfl, trivial⟩ ?_
          exact t_X6_since_70 ih hg
        · rw [if_neg hc11] at hg
          refine TT_ilt_f (t := 70) rfl rfl hc11 ?_
          refine TT_go 3 (pc' := 51) (lv' := [(0, .ref 40), (1, .int v1), (2, .int v2), (3, .int v3), (4, .int v4), (5, .int v5)]) (st' := [.int v5, .ref 42]) (h2 := (83, I, R0 p)) (by rfl) ?_
          by_cases hb13 : inB v5 12 = true
          rotate_left
          · rw [if_neg hb13] at hg; cases hg
          rw [if_pos hb13] at hg
          refine TT_iald (n := 12) rfl (by rfl) hb13 ?_
          obtain ⟨x14, hx14⟩ : ∃ x : Int32, x = (I 42 (Int32.toNatClampNeg v5)) := ⟨_, rfl⟩
          replace hg := bnd_use hx14 hg
          refine TT_go 0 (pc' := 52) (lv' := [(0, .ref 40), (1, .int v1), (2, .int v2), (3, .int v3), (4, .int v4), (5, .int v5)]) (st' := [.int x14]) (h2 := (83, I, R0 p)) (by subst hx14; rfl) ?_
          refine TT_go 1 (pc' := 53) (lv' := [(0, .ref 40), (1, .int v1), (2, .int v2), (3, .int v3), (4, .int v4), (5, .int v5)]) (st' := [.int v3, .int x14]) (h2 := (83, I, R0 p)) (by rfl) ?_
          by_cases hc15 : v3 ≤ x14
          · rw [if_pos hc15] at hg
            refine TT_ige_t (t := 70) rfl rfl hc15 ?_
            refine TT_go 0 (pc' := 70) (lv' := [(0, .ref 40), (1, .int v1), (2, .int v2), (3, .int v3), (4, .int v4), (5, .int v5)]) (st' := []) (h2 := (83, I, R0 p)) (by rfl) ?_
            refine TT_sub (lv2 := [(0, .ref 40), (1, .int v1), (2, .int v2), (3, .int v3), (4, .int v4), (5, .int v5)]) rfl rfl ⟨rfl, rfl, rfl, rfl, rfl, rfl, trivial⟩ ?_
            exact t_X6_since_70 ih hg
          · rw [if_neg hc15] at hg
            refine TT_ige_f (t := 70) rfl rfl hc15 ?_
            refine TT_go 4 (pc' := 64) (lv' := [(0, .ref 40), (1, .int v1), (2, .int v2), (3, .int v3), (4, .int v4), (5, .int v5)]) (st' := [.int v5, .ref 42, .int v4]) (h2 := (83, I, R0 p)) (by rfl) ?_
            by_cases hb16 : inB v5 12 = true
            rotate_left
            · rw [if_neg hb16] at hg; cases hg
            rw [if_pos hb16] at hg
            refine TT_iald (n := 12) rfl (by rfl) hb16 ?_
            obtain ⟨x17, hx17⟩ : ∃ x : Int32, x = (I 42 (Int32.toNatClampNeg v5)) := ⟨_, rfl⟩
            replace hg := bnd_use hx17 hg
            refine TT_go 0 (pc' := 65) (lv' := [(0, .ref 40), (1, .int v1), (2, .int v2), (3, .int v3), (4, .int v4), (5, .int v5)]) (st' := [.int x17, .int v4]) (h2 := (83, I, R0 p)) (by subst hx17; rfl) ?_
            obtain ⟨x18, hx18⟩ : ∃ x : Int32, x = ((if v4 < x17 then x17 else v4)) := ⟨_, rfl⟩
            replace hg := bnd_use hx18 hg
            refine TT_go 2 (pc' := 70) (lv' := [(4, .int x18), (0, .ref 40), (1, .int v1), (2, .int v2), (3, .int v3), (5, .int v5)]) (st' := []) (h2 := (83, I, R0 p)) (by subst hx18; rfl) ?_
            refine TT_sub (lv2 := [(0, .ref 40), (1, .int v1), (2, .int v2), (3, .int v3), (4, .int x18), (5, .int v5)]) rfl rfl ⟨rfl, rfl, rfl, rfl, rfl, rfl, trivial⟩ ?_
            exact t_X6_since_70 ih hg
      · rw [if_neg hc8] at hg
        refine TT_ine_t (t := 70) rfl rfl hc8 ?_
        refine TT_go 0 (pc' := 70) (lv' := [(0, .ref 40), (1, .int v1), (2, .int v2), (3, .int v3), (4, .int v4), (5, .int v5)]) (st' := []) (h2 := (83, I, R0 p)) (by rfl) ?_
        refine TT_sub (lv2 := [(0, .ref 40), (1, .int v1), (2, .int v2), (3, .int v3), (4, .int v4), (5, .int v5)]) rfl rfl ⟨rfl, rfl, rfl, rfl, rfl, rfl, trivial⟩ ?_
        exact t_X6_since_70 ih hg
def g_X6_since (n : Nat) (a0 : Int32) (a1 : Int32) (I : IH) : Option (Int32 × IH) :=
  match g_X6_till n a0 a1 I with
  | none => none
  | some (r4, J3) =>
    g_X6_since_14 n a0 a1 r4 ((-4)) 0 J3
set_option maxRecDepth 20000 in
theorem t_X6_since {p : Nat} {n : Nat} {a0 : Int32} {a1 : Int32} {I : IH} {w : Int32 × IH} (hg : g_X6_since n a0 a1 I = some w) : TT none mt_X6_since 0 (lv_args 0 [.ref 40, .int a0, .int a1]) [] (83, I, R0 p) (some (.int w.1)) (83, w.2, R0 p) := by
  unfold g_X6_since at hg
  refine TT_go 3 (pc' := 3) (lv' := [(0, .ref 40), (1, .int a0), (2, .int a1)]) (st' := [.int a1, .int a0, .ref 40]) (h2 := (83, I, R0 p)) (by rfl) ?_
  cases hq1 : g_X6_till n a0 a1 I with
  | none => rw [hq1] at hg; cases hg
  | some w2 =>
    obtain ⟨r4, J3⟩ := w2
    rw [hq1] at hg
    dsimp only at hg
    refine TT_call (me' := mt_X6_till) (as := [.ref 40, .int a0, .int a1]) (rest := []) (r1 := some (.int r4)) (h1 := (83, J3, R0 p)) rfl rfl (by rfl) (t_X6_till hq1) ?_
    refine TT_go 5 (pc' := 14) (lv' := [(5, .int 0), (4, .int (-4)), (3, .int r4), (0, .ref 40), (1, .int a0), (2, .int a1)]) (st' := []) (h2 := (83, J3, R0 p)) (by rfl) ?_
    refine TT_sub (lv2 := [(0, .ref 40), (1, .int a0), (2, .int a1), (3, .int r4), (4, .int (-4)), (5, .int 0)]) rfl rfl ⟨rfl, rfl, rfl, rfl, rfl, rfl, trivial⟩ ?_
    exact t_X6_since_14 n a0 a1 r4 ((-4)) 0 _ _ hg
def g_X6_exceedsEarlier_57 (n : Nat) (k2 : Int32 → Int32 → IH → Option (Int32 × IH)) (v1 : Int32) (v2 : Int32) (I : IH) : Option (Int32 × IH) :=
  bnd (v2 + 1) fun x12 =>
  k2 v1 x12 I
set_option maxRecDepth 20000 in
theorem t_X6_exceedsEarlier_57 {p : Nat} {n : Nat} {k2 : Int32 → Int32 → IH → Option (Int32 × IH)} (hk2 : ∀ (v1 : Int32) (v2 : Int32) (I : IH) (w : Int32 × IH), k2 v1 v2 I = some w → TT none mt_X6_exceedsEarlier 2 [(0, .ref 40), (1, .int v1), (2, .int v2)] [] (83, I, R0 p) (some (.int w.1)) (83, w.2, R0 p)) {v1 : Int32} {v2 : Int32} {I : IH} {w : Int32 × IH} (hg : g_X6_exceedsEarlier_57 n k2 v1 v2 I = some w) : TT none mt_X6_exceedsEarlier 57 [(0, .ref 40), (1, .int v1), (2, .int v2)] [] (83, I, R0 p) (some (.int w.1)) (83, w.2, R0 p) := by
  unfold g_X6_exceedsEarlier_57 at hg
  obtain ⟨x12, hx12⟩ : ∃ x : Int32, x = (v2 + 1) := ⟨_, rfl⟩
  replace hg := bnd_use hx12 hg
  refine TT_go 1 (pc' := 60) (lv' := [(2, .int x12), (0, .ref 40), (1, .int v1)]) (st' := []) (h2 := (83, I, R0 p)) (by subst hx12; rfl) ?_
  refine TT_go 1 (pc' := 2) (lv' := [(2, .int x12), (0, .ref 40), (1, .int v1)]) (st' := []) (h2 := (83, I, R0 p)) (by rfl) ?_
  refine TT_sub (lv2 := [(0, .ref 40), (1, .int v1), (2, .int x12)]) rfl rfl ⟨rfl, rfl, rfl, trivial⟩ ?_
  exact hk2 v1 x12 _ _ hg
def g_X6_exceedsEarlier_2 : Nat → Int32 → Int32 → IH → Option (Int32 × IH)
  | 0, _, _, _ => none
  | n + 1, v1, v2, I =>
    if (I 40 0) ≤ v2 then
      some (0, I)
    else
      if inB v2 12 = true then
        bnd (I 41 (Int32.toNatClampNeg v2)) fun x3 =>
        if inB v1 12 = true then
          bnd (I 41 (Int32.toNatClampNeg v1)) fun x5 =>
          if x3 = x5 then
            if inB v2 12 = true then
              bnd (I 42 (Int32.toNatClampNeg v2)) fun x8 =>
              if inB v1 12 = true then
                bnd (I 42 (Int32.toNatClampNeg v1)) fun x10 =>
                if x10 ≤ x8 then
                  g_X6_exceedsEarlier_57 n (g_X6_exceedsEarlier_2 n) v1 v2 I
                else
                  if inB v2 12 = true then
                    bnd (I 43 (Int32.toNatClampNeg v2)) fun x14 =>
                    if inB v1 12 = true then
                      bnd (I 43 (Int32.toNatClampNeg v1)) fun x16 =>
                      if x16 ≤ x14 then
                        g_X6_exceedsEarlier_57 n (g_X6_exceedsEarlier_2 n) v1 v2 I
                      else
                        some (1, I)
                    else none
                  else none
              else none
            else none
          else
            g_X6_exceedsEarlier_57 n (g_X6_exceedsEarlier_2 n) v1 v2 I
        else none
      else none
set_option maxRecDepth 20000 in
theorem t_X6_exceedsEarlier_2 {p : Nat} : ∀ (n : Nat) (v1 : Int32) (v2 : Int32) (I : IH) (w : Int32 × IH), g_X6_exceedsEarlier_2 n v1 v2 I = some w → TT none mt_X6_exceedsEarlier 2 [(0, .ref 40), (1, .int v1), (2, .int v2)] [] (83, I, R0 p) (some (.int w.1)) (83, w.2, R0 p) := by
  intro n
  induction n with
  | zero => intro v1 v2 I w hg; cases hg
  | succ n ih =>
    intro v1 v2 I w hg
    unfold g_X6_exceedsEarlier_2 at hg
    refine TT_go 3 (pc' := 7) (lv' := [(0, .ref 40), (1, .int v1), (2, .int v2)]) (st' := [.int (I 40 0), .int v2]) (h2 := (83, I, R0 p)) (by rfl) ?_
    by_cases hc1 : (I 40 0) ≤ v2
    · rw [if_pos hc1] at hg
      refine TT_ige_t (t := 63) rfl rfl hc1 ?_
      refine TT_go 1 (pc' := 64) (lv' := [(0, .ref 40), (1, .int v1), (2, .int v2)]) (st' := [.int 0]) (h2 := (83, I, R0 p)) (by rfl) ?_
      have hg := Option.some.inj hg
      subst hg
      exact TT_ret rfl rfl
    · rw [if_neg hc1] at hg
      refine TT_ige_f (t := 63) rfl rfl hc1 ?_
      refine TT_go 3 (pc' := 15) (lv' := [(0, .ref 40), (1, .int v1), (2, .int v2)]) (st' := [.int v2, .ref 41]) (h2 := (83, I, R0 p)) (by rfl) ?_
      by_cases hb2 : inB v2 12 = true
      rotate_left
      · rw [if_neg hb2] at hg; cases hg
      rw [if_pos hb2] at hg
      refine TT_iald (n := 12) rfl (by rfl) hb2 ?_
      obtain ⟨x3, hx3⟩ : ∃ x : Int32, x = (I 41 (Int32.toNatClampNeg v2)) := ⟨_, rfl⟩
      replace hg := bnd_use hx3 hg
      refine TT_go 0 (pc' := 16) (lv' := [(0, .ref 40), (1, .int v1), (2, .int v2)]) (st' := [.int x3]) (h2 := (83, I, R0 p)) (by subst hx3; rfl) ?_
      refine TT_go 3 (pc' := 21) (lv' := [(0, .ref 40), (1, .int v1), (2, .int v2)]) (st' := [.int v1, .ref 41, .int x3]) (h2 := (83, I, R0 p)) (by rfl) ?_
      by_cases hb4 : inB v1 12 = true
      rotate_left
      · rw [if_neg hb4] at hg; cases hg
      rw [if_pos hb4] at hg
      refine TT_iald (n := 12) rfl (by rfl) hb4 ?_
      obtain ⟨x5, hx5⟩ : ∃ x : Int32, x = (I 41 (Int32.toNatClampNeg v1)) := ⟨_, rfl⟩
      replace hg := bnd_use hx5 hg
      refine TT_go 0 (pc' := 22) (lv' := [(0, .ref 40), (1, .int v1), (2, .int v2)]) (st' := [.int x5, .int x3]) (h2 := (83, I, R0 p)) (by subst hx5; rfl) ?_
      by_cases hc6 : x3 = x5
      · rw [if_pos hc6] at hg
        refine TT_ine_f (t := 57) rfl rfl hc6 ?_
        refine TT_go 3 (pc' := 30) (lv' := [(0, .ref 40), (1, .int v1), (2, .int v2)]) (st' := [.int v2, .ref 42]) (h2 := (83, I, R0 p)) (by rfl) ?_
        by_cases hb7 : inB v2 12 = true
        rotate_left
        · rw [if_neg hb7] at hg; cases hg
        rw [if_pos hb7] at hg
        refine TT_iald (n := 12) rfl (by rfl) hb7 ?_
        obtain ⟨x8, hx8⟩ : ∃ x : Int32, x = (I 42 (Int32.toNatClampNeg v2)) := ⟨_, rfl⟩
        replace hg := bnd_use hx8 hg
        refine TT_go 0 (pc' := 31) (lv' := [(0, .ref 40), (1, .int v1), (2, .int v2)]) (st' := [.int x8]) (h2 := (83, I, R0 p)) (by subst hx8; rfl) ?_
        refine TT_go 3 (pc' := 36) (lv' := [(0, .ref 40), (1, .int v1), (2, .int v2)]) (st' := [.int v1, .ref 42, .int x8]) (h2 := (83, I, R0 p)) (by rfl) ?_
        by_cases hb9 : inB v1 12 = true
        rotate_left
        · rw [if_neg hb9] at hg; cases hg
        rw [if_pos hb9] at hg
        refine TT_iald (n := 12) rfl (by rfl) hb9 ?_
        obtain ⟨x10, hx10⟩ : ∃ x : Int32, x = (I 42 (Int32.toNatClampNeg v1)) := ⟨_, rfl⟩
        replace hg := bnd_use hx10 hg
        refine TT_go 0 (pc' := 37) (lv' := [(0, .ref 40), (1, .int v1), (2, .int v2)]) (st' := [.int x10, .int x8]) (h2 := (83, I, R0 p)) (by subst hx10; rfl) ?_
        by_cases hc11 : x10 ≤ x8
        · rw [if_pos hc11] at hg
          refine TT_ige_t (t := 57) rfl rfl hc11 ?_
          refine TT_go 0 (pc' := 57) (lv' := [(0, .ref 40), (1, .int v1), (2, .int v2)]) (st' := []) (h2 := (83, I, R0 p)) (by rfl) ?_
          refine TT_sub (lv2 := [(0, .ref 40), (1, .int v1), (2, .int v2)]) rfl rfl ⟨rfl, rfl, rfl, trivial⟩ ?_
          exact t_X6_exceedsEarlier_57 ih hg
        · rw [if_neg hc11] at hg
          refine TT_ige_f (t := 57) rfl rfl hc11 ?_
          refine TT_go 3 (pc' := 45) (lv' := [(0, .ref 40), (1, .int v1), (2, .int v2)]) (st' := [.int v2, .ref 43]) (h2 := (83, I, R0 p)) (by rfl) ?_
          by_cases hb13 : inB v2 12 = true
          rotate_left
          · rw [if_neg hb13] at hg; cases hg
          rw [if_pos hb13] at hg
          refine TT_iald (n := 12) rfl (by rfl) hb13 ?_
          obtain ⟨x14, hx14⟩ : ∃ x : Int32, x = (I 43 (Int32.toNatClampNeg v2)) := ⟨_, rfl⟩
          replace hg := bnd_use hx14 hg
          refine TT_go 0 (pc' := 46) (lv' := [(0, .ref 40), (1, .int v1), (2, .int v2)]) (st' := [.int x14]) (h2 := (83, I, R0 p)) (by subst hx14; rfl) ?_
          refine TT_go 3 (pc' := 51) (lv' := [(0, .ref 40), (1, .int v1), (2, .int v2)]) (st' := [.int v1, .ref 43, .int x14]) (h2 := (83, I, R0 p)) (by rfl) ?_
          by_cases hb15 : inB v1 12 = true
          rotate_left
          · rw [if_neg hb15] at hg; cases hg
          rw [if_pos hb15] at hg
          refine TT_iald (n := 12) rfl (by rfl) hb15 ?_
          obtain ⟨x16, hx16⟩ : ∃ x : Int32, x = (I 43 (Int32.toNatClampNeg v1)) := ⟨_, rfl⟩
          replace hg := bnd_use hx16 hg
          refine TT_go 0 (pc' := 52) (lv' := [(0, .ref 40), (1, .int v1), (2, .int v2)]) (st' := [.int x16, .int x14]) (h2 := (83, I, R0 p)) (by subst hx16; rfl) ?_
          by_cases hc17 : x16 ≤ x14
          · rw [if_pos hc17] at hg
            refine TT_ige_t (t := 57) rfl rfl hc17 ?_
            refine TT_go 0 (pc' := 57) (lv' := [(0, .ref 40), (1, .int v1), (2, .int v2)]) (st' := []) (h2 := (83, I, R0 p)) (by rfl) ?_
            refine TT_sub (lv2 := [(0, .ref 40), (1, .int v1), (2, .int v2)]) rfl rfl ⟨rfl, rfl, rfl, trivial⟩ ?_
            exact t_X6_exceedsEarlier_57 ih hg
          · rw [if_neg hc17] at hg
            refine TT_ige_f (t := 57) rfl rfl hc17 ?_
            refine TT_go 1 (pc' := 56) (lv' := [(0, .ref 40), (1, .int v1), (2, .int v2)]) (st' := [.int 1]) (h2 := (83, I, R0 p)) (by rfl) ?_
            have hg := Option.some.inj hg
            subst hg
            exact TT_ret rfl rfl
      · rw [if_neg hc6] at hg
        refine TT_ine_t (t := 57) rfl rfl hc6 ?_
        refine TT_go 0 (pc' := 57) (lv' := [(0, .ref 40), (1, .int v1), (2, .int v2)]) (st' := []) (h2 := (83, I, R0 p)) (by rfl) ?_
        refine TT_sub (lv2 := [(0, .ref 40), (1, .int v1), (2, .int v2)]) rfl rfl ⟨rfl, rfl, rfl, trivial⟩ ?_
        exact t_X6_exceedsEarlier_57 ih hg
def g_X6_exceedsEarlier (n : Nat) (a0 : Int32) (I : IH) : Option (Int32 × IH) :=
  g_X6_exceedsEarlier_2 n a0 0 I
set_option maxRecDepth 20000 in
theorem t_X6_exceedsEarlier {p : Nat} {n : Nat} {a0 : Int32} {I : IH} {w : Int32 × IH} (hg : g_X6_exceedsEarlier n a0 I = some w) : TT none mt_X6_exceedsEarlier 0 (lv_args 0 [.ref 40, .int a0]) [] (83, I, R0 p) (some (.int w.1)) (83, w.2, R0 p) := by
  unfold g_X6_exceedsEarlier at hg
  refine TT_go 2 (pc' := 2) (lv' := [(2, .int 0), (0, .ref 40), (1, .int a0)]) (st' := []) (h2 := (83, I, R0 p)) (by rfl) ?_
  refine TT_sub (lv2 := [(0, .ref 40), (1, .int a0), (2, .int 0)]) rfl rfl ⟨rfl, rfl, rfl, trivial⟩ ?_
  exact t_X6_exceedsEarlier_2 n a0 0 _ _ hg
def g_X6_falseOnes_33 (n : Nat) (k4 : Int32 → Int32 → Int32 → IH → Option (Int32 × IH)) (v1 : Int32) (v2 : Int32) (v3 : Int32) (I : IH) : Option (Int32 × IH) :=
  bnd (v3 + 1) fun x10 =>
  k4 v1 v2 x10 I
set_option maxRecDepth 20000 in
theorem t_X6_falseOnes_33 {p : Nat} {n : Nat} {k4 : Int32 → Int32 → Int32 → IH → Option (Int32 × IH)} (hk4 : ∀ (v1 : Int32) (v2 : Int32) (v3 : Int32) (I : IH) (w : Int32 × IH), k4 v1 v2 v3 I = some w → TT none mt_X6_falseOnes 4 [(0, .ref 40), (1, .int v1), (2, .int v2), (3, .int v3)] [] (83, I, R0 p) (some (.int w.1)) (83, w.2, R0 p)) {v1 : Int32} {v2 : Int32} {v3 : Int32} {I : IH} {w : Int32 × IH} (hg : g_X6_falseOnes_33 n k4 v1 v2 v3 I = some w) : TT none mt_X6_falseOnes 33 [(0, .ref 40), (1, .int v1), (2, .int v2), (3, .int v3)] [] (83, I, R0 p) (some (.int w.1)) (83, w.2, R0 p) := by
  unfold g_X6_falseOnes_33 at hg
  obtain ⟨x10, hx10⟩ : ∃ x : Int32, x = (v3 + 1) := ⟨_, rfl⟩
  replace hg := bnd_use hx10 hg
  refine TT_go 1 (pc' := 36) (lv' := [(3, .int x10), (0, .ref 40), (1, .int v1), (2, .int v2)]) (st' := []) (h2 := (83, I, R0 p)) (by subst hx10; rfl) ?_
  refine TT_go 1 (pc' := 4) (lv' := [(3, .int x10), (0, .ref 40), (1, .int v1), (2, .int v2)]) (st' := []) (h2 := (83, I, R0 p)) (by rfl) ?_
  refine TT_sub (lv2 := [(0, .ref 40), (1, .int v1), (2, .int v2), (3, .int x10)]) rfl rfl ⟨rfl, rfl, rfl, rfl, trivial⟩ ?_
  exact hk4 v1 v2 x10 _ _ hg
def g_X6_falseOnes_4 : Nat → Int32 → Int32 → Int32 → IH → Option (Int32 × IH)
  | 0, _, _, _, _ => none
  | n + 1, v1, v2, v3, I =>
    if (I 40 0) ≤ v3 then
      some (v2, I)
    else
      if inB v3 12 = true then
        bnd (I 41 (Int32.toNatClampNeg v3)) fun x3 =>
        if x3 = v1 then
          match g_X6_exceedsEarlier n v3 I with
          | none => none
          | some (r8, J7) =>
            if r8 = 0 then
              g_X6_falseOnes_33 n (g_X6_falseOnes_4 n) v1 v2 v3 J7
            else
              bnd (v2 + 1) fun x11 =>
              g_X6_falseOnes_33 n (g_X6_falseOnes_4 n) v1 x11 v3 J7
        else
          g_X6_falseOnes_33 n (g_X6_falseOnes_4 n) v1 v2 v3 I
      else none
set_option maxRecDepth 20000 in
theorem t_X6_falseOnes_4 {p : Nat} : ∀ (n : Nat) (v1 : Int32) (v2 : Int32) (v3 : Int32) (I : IH) (w : Int32 × IH), g_X6_falseOnes_4 n v1 v2 v3 I = some w → TT none mt_X6_falseOnes 4 [(0, .ref 40), (1, .int v1), (2, .int v2), (3, .int v3)] [] (83, I, R0 p) (some (.int w.1)) (83, w.2, R0 p) := by
  intro n
  induction n with
  | zero => intro v1 v2 v3 I w hg; cases hg
  | succ n ih =>
    intro v1 v2 v3 I w hg
    unfold g_X6_falseOnes_4 at hg
    refine TT_go 3 (pc' := 9) (lv' := [(0, .ref 40), (1, .int v1), (2, .int v2), (3, .int v3)]) (st' := [.int (I 40 0), .int v3]) (h2 := (83, I, R0 p)) (by rfl) ?_
    by_cases hc1 : (I 40 0) ≤ v3
    · rw [if_pos hc1] at hg
      refine TT_ige_t (t := 39) rfl rfl hc1 ?_
      refine TT_go 1 (pc' := 40) (lv' := [(0, .ref 40), (1, .int v1), (2, .int v2), (3, .int v3)]) (st' := [.int v2]) (h2 := (83, I, R0 p)) (by rfl) ?_
      have hg := Option.some.inj hg
      subst hg
      exact TT_ret rfl rfl
    · rw [if_neg hc1] at hg
      refine TT_ige_f (t := 39) rfl rfl hc1 ?_
      refine TT_go 3 (pc' := 17) (lv' := [(0, .ref 40), (1, .int v1), (2, .int v2), (3, .int v3)]) (st' := [.int v3, .ref 41]) (h2 := (83, I, R0 p)) (by rfl) ?_
      by_cases hb2 : inB v3 12 = true
      rotate_left
      · rw [if_neg hb2] at hg; cases hg
      rw [if_pos hb2] at hg
      refine TT_iald (n := 12) rfl (by rfl) hb2 ?_
      obtain ⟨x3, hx3⟩ : ∃ x : Int32, x = (I 41 (Int32.toNatClampNeg v3)) := ⟨_, rfl⟩
      replace hg := bnd_use hx3 hg
      refine TT_go 0 (pc' := 18) (lv' := [(0, .ref 40), (1, .int v1), (2, .int v2), (3, .int v3)]) (st' := [.int x3]) (h2 := (83, I, R0 p)) (by subst hx3; rfl) ?_
      refine TT_go 1 (pc' := 19) (lv' := [(0, .ref 40), (1, .int v1), (2, .int v2), (3, .int v3)]) (st' := [.int v1, .int x3]) (h2 := (83, I, R0 p)) (by rfl) ?_
      by_cases hc4 : x3 = v1
      · rw [if_pos hc4] at hg
        refine TT_ine_f (t := 33) rfl rfl hc4 ?_
        refine TT_go 2 (pc' := 24) (lv' := [(0, .ref 40), (1, .int v1), (2, .int v2), (3, .int v3)]) (st' := [.int v3, .ref 40]) (h2 := (83, I, R0 p)) (by rfl) ?_
        cases hq5 : g_X6_exceedsEarlier n v3 I with
        | none => rw [hq5] at hg; cases hg
        | some w6 =>
          obtain ⟨r8, J7⟩ := w6
          rw [hq5] at hg
          dsimp only at hg
          refine TT_call (me' := mt_X6_exceedsEarlier) (as := [.ref 40, .int v3]) (rest := []) (r1 := some (.int r8)) (h1 := (83, J7, R0 p)) rfl rfl (by rfl) (t_X6_exceedsEarlier hq5) ?_
          refine TT_go 0 (pc' := 27) (lv' := [(0, .ref 40), (1, .int v1), (2, .int v2), (3, .int v3)]) (st' := [.int r8]) (h2 := (83, J7, R0 p)) (by rfl) ?_
          by_cases hc9 : r8 = 0
          · rw [if_pos hc9] at hg
            refine TT_zeq_t (t := 33) rfl rfl hc9 ?_
            refine TT_go 0 (pc' := 33) (lv' := [(0, .ref 40), (1, .int v1), (2, .int v2), (3, .int v3)]) (st' := []) (h2 := (83, J7, R0 p)) (by rfl) ?_
            refine TT_sub (lv2 := [(0, .ref 40), (1, .int v1), (2, .int v2), (3, .int v3)]) rfl rfl ⟨rfl, rfl, rfl, rfl, trivial⟩ ?_
            exact t_X6_falseOnes_33 ih hg
          · rw [if_neg hc9] at hg
            refine TT_zeq_f (t := 33) rfl rfl hc9 ?_
            obtain ⟨x11, hx11⟩ : ∃ x : Int32, x = (v2 + 1) := ⟨_, rfl⟩
            replace hg := bnd_use hx11 hg
            refine TT_go 1 (pc' := 33) (lv' := [(2, .int x11), (0, .ref 40), (1, .int v1), (3, .int v3)]) (st' := []) (h2 := (83, J7, R0 p)) (by subst hx11; rfl) ?_
            refine TT_sub (lv2 := [(0, .ref 40), (1, .int v1), (2, .int x11), (3, .int v3)]) rfl rfl ⟨rfl, rfl, rfl, rfl, trivial⟩ ?_
            exact t_X6_falseOnes_33 ih hg
      · rw [if_neg hc4] at hg
        refine TT_ine_t (t := 33) rfl rfl hc4 ?_
        refine TT_go 0 (pc' := 33) (lv' := [(0, .ref 40), (1, .int v1), (2, .int v2), (3, .int v3)]) (st' := []) (h2 := (83, I, R0 p)) (by rfl) ?_
        refine TT_sub (lv2 := [(0, .ref 40), (1, .int v1), (2, .int v2), (3, .int v3)]) rfl rfl ⟨rfl, rfl, rfl, rfl, trivial⟩ ?_
        exact t_X6_falseOnes_33 ih hg
def g_X6_falseOnes (n : Nat) (a0 : Int32) (I : IH) : Option (Int32 × IH) :=
  g_X6_falseOnes_4 n a0 0 0 I
set_option maxRecDepth 20000 in
theorem t_X6_falseOnes {p : Nat} {n : Nat} {a0 : Int32} {I : IH} {w : Int32 × IH} (hg : g_X6_falseOnes n a0 I = some w) : TT none mt_X6_falseOnes 0 (lv_args 0 [.ref 40, .int a0]) [] (83, I, R0 p) (some (.int w.1)) (83, w.2, R0 p) := by
  unfold g_X6_falseOnes at hg
  refine TT_go 4 (pc' := 4) (lv' := [(3, .int 0), (2, .int 0), (0, .ref 40), (1, .int a0)]) (st' := []) (h2 := (83, I, R0 p)) (by rfl) ?_
  refine TT_sub (lv2 := [(0, .ref 40), (1, .int a0), (2, .int 0), (3, .int 0)]) rfl rfl ⟨rfl, rfl, rfl, rfl, trivial⟩ ?_
  exact t_X6_falseOnes_4 n a0 0 0 _ _ hg
def g_X7_append_5 : Nat → Int64 → Int32 → IH → Option (IH)
  | 0, _, _, _ => none
  | n + 1, v2, v4, I =>
    if v4 < 0 then
      some I
    else
      if 400 ≤ (I 1 1) then
        some I
      else
        if inB (I 1 1) 400 = true then
          bnd (up2 I 2 (Int32.toNatClampNeg (I 1 1)) (vp_nar .byte ((Int32.toInt8 (Int64.toInt32 (v2 >>> (Int32.toInt64 (8 * v4) &&& 63)))).toInt32))) fun J5 =>
          bnd (up2 J5 1 1 ((J5 1 1) + 1)) fun J6 =>
          bnd (v4 + (-1)) fun x7 =>
          g_X7_append_5 n v2 x7 J6
        else none
set_option maxRecDepth 20000 in
theorem t_X7_append_5 {p : Nat} : ∀ (n : Nat) (v2 : Int64) (v4 : Int32) (I : IH) (w : IH), g_X7_append_5 n v2 v4 I = some w → TT none mt_X7_append 5 [(0, .ref 1), (2, .long v2), (4, .int v4)] [] (83, I, R0 p) none (83, w, R0 p) := by
  intro n
  induction n with
  | zero => intro v2 v4 I w hg; cases hg
  | succ n ih =>
    intro v2 v4 I w hg
    unfold g_X7_append_5 at hg
    refine TT_go 1 (pc' := 7) (lv' := [(0, .ref 1), (2, .long v2), (4, .int v4)]) (st' := [.int v4]) (h2 := (83, I, R0 p)) (by rfl) ?_
    by_cases hc2 : v4 < 0
    · rw [if_pos hc2] at hg
      refine TT_zlt_t (t := 54) rfl rfl hc2 ?_
      refine TT_go 0 (pc' := 54) (lv' := [(0, .ref 1), (2, .long v2), (4, .int v4)]) (st' := []) (h2 := (83, I, R0 p)) (by rfl) ?_
      have hg := Option.some.inj hg
      subst hg
      exact TT_ret rfl rfl
    · rw [if_neg hc2] at hg
      refine TT_zlt_f (t := 54) rfl rfl hc2 ?_
      refine TT_go 3 (pc' := 17) (lv' := [(0, .ref 1), (2, .long v2), (4, .int v4)]) (st' := [.int 400, .int (I 1 1)]) (h2 := (83, I, R0 p)) (by rfl) ?_
      by_cases hc3 : 400 ≤ (I 1 1)
      · rw [if_pos hc3] at hg
        refine TT_ige_t (t := 54) rfl rfl hc3 ?_
        refine TT_go 0 (pc' := 54) (lv' := [(0, .ref 1), (2, .long v2), (4, .int v4)]) (st' := []) (h2 := (83, I, R0 p)) (by rfl) ?_
        have hg := Option.some.inj hg
        subst hg
        exact TT_ret rfl rfl
      · rw [if_neg hc3] at hg
        refine TT_ige_f (t := 54) rfl rfl hc3 ?_
        refine TT_go 11 (pc' := 37) (lv' := [(0, .ref 1), (2, .long v2), (4, .int v4)]) (st' := [.int ((Int32.toInt8 (Int64.toInt32 (v2 >>> (Int32.toInt64 (8 * v4) &&& 63)))).toInt32), .int (I 1 1), .ref 2]) (h2 := (83, I, R0 p)) (by rfl) ?_
        by_cases hb4 : inB (I 1 1) 400 = true
        rotate_left
        · rw [if_neg hb4] at hg; cases hg
        rw [if_pos hb4] at hg
        refine TT_bast (n := 400) rfl (by rfl) hb4 ?_
        obtain ⟨J5, hJ5⟩ : ∃ x : IH, x = (up2 I 2 (Int32.toNatClampNeg (I 1 1)) (vp_nar .byte ((Int32.toInt8 (Int64.toInt32 (v2 >>> (Int32.toInt64 (8 * v4) &&& 63)))).toInt32))) := ⟨_, rfl⟩
        replace hg := bnd_use hJ5 hg
        refine TT_go 0 (pc' := 38) (lv' := [(0, .ref 1), (2, .long v2), (4, .int v4)]) (st' := []) (h2 := (83, J5, R0 p)) (by subst hJ5; rfl) ?_
        obtain ⟨J6, hJ6⟩ : ∃ x : IH, x = (up2 J5 1 1 ((J5 1 1) + 1)) := ⟨_, rfl⟩
        replace hg := bnd_use hJ6 hg
        refine TT_go 6 (pc' := 48) (lv' := [(0, .ref 1), (2, .long v2), (4, .int v4)]) (st' := []) (h2 := (83, J6, R0 p)) (by subst hJ6; rfl) ?_
        obtain ⟨x7, hx7⟩ : ∃ x : Int32, x = (v4 + (-1)) := ⟨_, rfl⟩
        replace hg := bnd_use hx7 hg
        refine TT_go 1 (pc' := 51) (lv' := [(4, .int x7), (0, .ref 1), (2, .long v2)]) (st' := []) (h2 := (83, J6, R0 p)) (by subst hx7; rfl) ?_
        refine TT_go 1 (pc' := 5) (lv' := [(4, .int x7), (0, .ref 1), (2, .long v2)]) (st' := []) (h2 := (83, J6, R0 p)) (by rfl) ?_
        refine TT_sub (lv2 := [(0, .ref 1), (2, .long v2), (4, .int x7)]) rfl rfl ⟨rfl, rfl, rfl, trivial⟩ ?_
        exact ih v2 x7 _ _ hg
def g_X7_append (n : Nat) (a0 : Int32) (a1 : Int64) (I : IH) : Option (IH) :=
  bnd ((a0 - 1)) fun x1 =>
  g_X7_append_5 n a1 x1 I
set_option maxRecDepth 20000 in
theorem t_X7_append {p : Nat} {n : Nat} {a0 : Int32} {a1 : Int64} {I : IH} {w : IH} (hg : g_X7_append n a0 a1 I = some w) : TT none mt_X7_append 0 (lv_args 0 [.ref 1, .int a0, .long a1]) [] (83, I, R0 p) none (83, w, R0 p) := by
  unfold g_X7_append at hg
  obtain ⟨x1, hx1⟩ : ∃ x : Int32, x = ((a0 - 1)) := ⟨_, rfl⟩
  replace hg := bnd_use hx1 hg
  refine TT_go 4 (pc' := 5) (lv' := [(4, .int x1), (0, .ref 1), (1, .int a0), (2, .long a1)]) (st' := []) (h2 := (83, I, R0 p)) (by subst hx1; rfl) ?_
  refine TT_sub (lv2 := [(0, .ref 1), (2, .long a1), (4, .int x1)]) rfl rfl ⟨rfl, rfl, rfl, trivial⟩ ?_
  exact t_X7_append_5 n a1 x1 _ _ hg
def g_X8_write (n : Nat) (p : Nat) (a0 : Int32) (a1 : Int64) (I : IH) : Option (Int32 × IH) :=
  match g_X8_within n a0 1 8 I with
  | none => none
  | some (r4, J3) =>
    if r4 = 0 then
      some ((-1), J3)
    else
      if ((J3 1 1) + a0) ≤ 400 then
        match g_X7_append n a0 a1 J3 with
        | none => none
        | some J9 =>
          some ((J9 1 1), J9)
      else
        some ((-3), J3)
set_option maxRecDepth 20000 in
theorem t_X8_write {p : Nat} (hp : p = 5 ∨ p = 18) {n : Nat} {a0 : Int32} {a1 : Int64} {I : IH} {w : Int32 × IH} (hg : g_X8_write n p a0 a1 I = some w) : TT none mt_X8_write 0 (lv_args 0 [.ref 0, .int a0, .long a1]) [] (83, I, R0 p) (some (.int w.1)) (83, w.2, R0 p) := by
  unfold g_X8_write at hg
  refine TT_go 3 (pc' := 4) (lv' := [(0, .ref 0), (1, .int a0), (2, .long a1)]) (st' := [.int 8, .int 1, .int a0]) (h2 := (83, I, R0 p)) (by rcases hp with rfl | rfl <;> rfl) ?_
  cases hq1 : g_X8_within n a0 1 8 I with
  | none => rw [hq1] at hg; cases hg
  | some w2 =>
    obtain ⟨r4, J3⟩ := w2
    rw [hq1] at hg
    dsimp only at hg
    refine TT_call (me' := mt_X8_within) (as := [.int a0, .int 1, .int 8]) (rest := []) (r1 := some (.int r4)) (h1 := (83, J3, R0 p)) rfl rfl (by rcases hp with rfl | rfl <;> rfl) (t_X8_within hq1) ?_
    refine TT_go 0 (pc' := 7) (lv' := [(0, .ref 0), (1, .int a0), (2, .long a1)]) (st' := [.int r4]) (h2 := (83, J3, R0 p)) (by rcases hp with rfl | rfl <;> rfl) ?_
    by_cases hc5 : r4 = 0
    · rw [if_pos hc5] at hg
      refine TT_zne_f (t := 12) rfl rfl hc5 ?_
      refine TT_go 1 (pc' := 11) (lv' := [(0, .ref 0), (1, .int a0), (2, .long a1)]) (st' := [.int (-1)]) (h2 := (83, J3, R0 p)) (by rcases hp with rfl | rfl <;> rfl) ?_
      have hg := Option.some.inj hg
      subst hg
      exact TT_ret rfl rfl
    · rw [if_neg hc5] at hg
      refine TT_zne_t (t := 12) rfl rfl hc5 ?_
      refine TT_go 6 (pc' := 24) (lv' := [(0, .ref 0), (1, .int a0), (2, .long a1)]) (st' := [.int 400, .int ((J3 1 1) + a0)]) (h2 := (83, J3, R0 p)) (by rcases hp with rfl | rfl <;> rfl) ?_
      by_cases hc6 : ((J3 1 1) + a0) ≤ 400
      · rw [if_pos hc6] at hg
        refine TT_ile_t (t := 30) rfl rfl hc6 ?_
        refine TT_go 4 (pc' := 36) (lv' := [(0, .ref 0), (1, .int a0), (2, .long a1)]) (st' := [.long a1, .int a0, .ref 1]) (h2 := (83, J3, R0 p)) (by rcases hp with rfl | rfl <;> rfl) ?_
        cases hq7 : g_X7_append n a0 a1 J3 with
        | none => rw [hq7] at hg; cases hg
        | some w8 =>
          obtain ⟨J9, hJ9⟩ : ∃ J, J = w8 := ⟨_, rfl⟩
          rw [← hJ9] at hq7
          rw [hq7] at hg
          dsimp only at hg
          refine TT_call (me' := mt_X7_append) (as := [.ref 1, .int a0, .long a1]) (rest := []) (r1 := none) (h1 := (83, J9, R0 p)) rfl rfl (by rcases hp with rfl | rfl <;> rfl) (t_X7_append hq7) ?_
          refine TT_go 3 (pc' := 46) (lv' := [(0, .ref 0), (1, .int a0), (2, .long a1)]) (st' := [.int (J9 1 1)]) (h2 := (83, J9, R0 p)) (by rcases hp with rfl | rfl <;> rfl) ?_
          have hg := Option.some.inj hg
          subst hg
          exact TT_ret rfl rfl
      · rw [if_neg hc6] at hg
        refine TT_ile_f (t := 30) rfl rfl hc6 ?_
        refine TT_go 1 (pc' := 29) (lv' := [(0, .ref 0), (1, .int a0), (2, .long a1)]) (st' := [.int (-3)]) (h2 := (83, J3, R0 p)) (by rcases hp with rfl | rfl <;> rfl) ?_
        have hg := Option.some.inj hg
        subst hg
        exact TT_ret rfl rfl
def g_X8_wipe (n : Nat) (p : Nat) (I : IH) : Option (Int32 × IH) :=
  bnd ((I 1 1)) fun x1 =>
  bnd (up2 I 1 1 0) fun J2 =>
  some (x1, J2)
set_option maxRecDepth 20000 in
theorem t_X8_wipe {p : Nat} (hp : p = 5 ∨ p = 18) {n : Nat} {I : IH} {w : Int32 × IH} (hg : g_X8_wipe n p I = some w) : TT none mt_X8_wipe 0 (lv_args 0 [.ref 0]) [] (83, I, R0 p) (some (.int w.1)) (83, w.2, R0 p) := by
  unfold g_X8_wipe at hg
  obtain ⟨x1, hx1⟩ : ∃ x : Int32, x = ((I 1 1)) := ⟨_, rfl⟩
  replace hg := bnd_use hx1 hg
  refine TT_go 4 (pc' := 8) (lv' := [(1, .int x1), (0, .ref 0)]) (st' := []) (h2 := (83, I, R0 p)) (by subst hx1; rcases hp with rfl | rfl <;> rfl) ?_
  obtain ⟨J2, hJ2⟩ : ∃ x : IH, x = (up2 I 1 1 0) := ⟨_, rfl⟩
  replace hg := bnd_use hJ2 hg
  refine TT_go 4 (pc' := 16) (lv' := [(1, .int x1), (0, .ref 0)]) (st' := []) (h2 := (83, J2, R0 p)) (by subst hJ2; rcases hp with rfl | rfl <;> rfl) ?_
  refine TT_go 1 (pc' := 17) (lv' := [(1, .int x1), (0, .ref 0)]) (st' := [.int x1]) (h2 := (83, J2, R0 p)) (by rcases hp with rfl | rfl <;> rfl) ?_
  have hg := Option.some.inj hg
  subst hg
  exact TT_ret rfl rfl
def g_X8_fault (n : Nat) (p : Nat) (I : IH) : Option (Int32 × IH) :=
  match g_X3_readText n (23 - p) I with
  | none => none
  | some (r4, J3) =>
    some (r4, J3)
set_option maxRecDepth 20000 in
theorem t_X8_fault {p : Nat} (hp : p = 5 ∨ p = 18) {n : Nat} {I : IH} {w : Int32 × IH} (hg : g_X8_fault n p I = some w) : TT none mt_X8_fault 0 (lv_args 0 [.ref 0]) [] (83, I, R0 p) (some (.int w.1)) (83, w.2, R0 p) := by
  unfold g_X8_fault at hg
  refine TT_go 6 (pc' := 12) (lv' := [(0, .ref 0)]) (st' := [.ref (23 - p), .ref 1, .ref 3]) (h2 := (83, I, R0 p)) (by rcases hp with rfl | rfl <;> rfl) ?_
  cases hq1 : g_X3_readText n (23 - p) I with
  | none => rw [hq1] at hg; cases hg
  | some w2 =>
    obtain ⟨r4, J3⟩ := w2
    rw [hq1] at hg
    dsimp only at hg
    refine TT_call (me' := mt_X3_readText) (as := [.ref 3, .ref 1, .ref (23 - p)]) (rest := []) (r1 := some (.int r4)) (h1 := (83, J3, R0 p)) rfl rfl (by rcases hp with rfl | rfl <;> rfl) (t_X3_readText (by rcases hp with rfl | rfl <;> decide) hq1) ?_
    refine TT_go 0 (pc' := 15) (lv' := [(0, .ref 0)]) (st' := [.int r4]) (h2 := (83, J3, R0 p)) (by rcases hp with rfl | rfl <;> rfl) ?_
    have hg := Option.some.inj hg
    subst hg
    exact TT_ret rfl rfl
def g_X8_lay (n : Nat) (p : Nat) (I : IH) : Option (Int32 × IH × Nat) :=
  match g_X3_readText n (23 - p) I with
  | none => none
  | some (r4, J3) =>
    if r4 = (-4) then
      if (J3 ((23 - p)) 0) = 0 then
        some ((-2), J3, p)
      else
        match g_X2_bindTies n (23 - p) J3 with
        | none => none
        | some J9 =>
          match g_X5_fill n (23 - p) J9 with
          | none => none
          | some J12 =>
            bnd (up2 J12 35 0 0) fun J13 =>
            bnd (up2 J13 40 0 0) fun J14 =>
            bnd (up2 J14 0 12 0) fun J15 =>
            some ((J15 ((23 - p)) 0), J15, 23 - p)
    else
      some ((-2), J3, p)
set_option maxRecDepth 20000 in
theorem t_X8_lay {p : Nat} (hp : p = 5 ∨ p = 18) {n : Nat} {I : IH} {w : Int32 × IH × Nat} (hg : g_X8_lay n p I = some w) : TT none mt_X8_lay 0 (lv_args 0 [.ref 0]) [] (83, I, R0 p) (some (.int w.1)) (83, w.2.1, R0 w.2.2) := by
  unfold g_X8_lay at hg
  refine TT_go 6 (pc' := 12) (lv' := [(0, .ref 0)]) (st' := [.ref (23 - p), .ref 1, .ref 3]) (h2 := (83, I, R0 p)) (by rcases hp with rfl | rfl <;> rfl) ?_
  cases hq1 : g_X3_readText n (23 - p) I with
  | none => rw [hq1] at hg; cases hg
  | some w2 =>
    obtain ⟨r4, J3⟩ := w2
    rw [hq1] at hg
    dsimp only at hg
    refine TT_call (me' := mt_X3_readText) (as := [.ref 3, .ref 1, .ref (23 - p)]) (rest := []) (r1 := some (.int r4)) (h1 := (83, J3, R0 p)) rfl rfl (by rcases hp with rfl | rfl <;> rfl) (t_X3_readText (by rcases hp with rfl | rfl <;> decide) hq1) ?_
    refine TT_go 1 (pc' := 17) (lv' := [(0, .ref 0)]) (st' := [.int (-4), .int r4]) (h2 := (83, J3, R0 p)) (by rcases hp with rfl | rfl <;> rfl) ?_
    by_cases hc5 : r4 = (-4)
    · rw [if_pos hc5] at hg
      refine TT_ine_f (t := 30) rfl rfl hc5 ?_
      refine TT_go 3 (pc' := 27) (lv' := [(0, .ref 0)]) (st' := [.int (J3 ((23 - p)) 0)]) (h2 := (83, J3, R0 p)) (by rcases hp with rfl | rfl <;> rfl) ?_
      by_cases hc6 : (J3 ((23 - p)) 0) = 0
      · rw [if_pos hc6] at hg
        refine TT_zne_f (t := 33) rfl rfl hc6 ?_
        refine TT_go 1 (pc' := 32) (lv' := [(0, .ref 0)]) (st' := [.int (-2)]) (h2 := (83, J3, R0 p)) (by rcases hp with rfl | rfl <;> rfl) ?_
        have hg := Option.some.inj hg
        subst hg
        exact TT_ret rfl rfl
      · rw [if_neg hc6] at hg
        refine TT_zne_t (t := 33) rfl rfl hc6 ?_
        refine TT_go 10 (pc' := 51) (lv' := [(1, .ref p), (0, .ref 0)]) (st' := []) (h2 := (83, J3, up2 (up2 (R0 p) 0 2 (some (23 - p))) 0 3 (some p))) (by rcases hp with rfl | rfl <;> rfl) ?_
        rw [R0_swap hp]
        refine TT_go 2 (pc' := 55) (lv' := [(1, .ref p), (0, .ref 0)]) (st' := [.ref (23 - p)]) (h2 := (83, J3, R0 (23 - p))) (by rcases hp with rfl | rfl <;> rfl) ?_
        cases hq7 : g_X2_bindTies n (23 - p) J3 with
        | none => rw [hq7] at hg; cases hg
        | some w8 =>
          obtain ⟨J9, hJ9⟩ : ∃ J, J = w8 := ⟨_, rfl⟩
          rw [← hJ9] at hq7
          rw [hq7] at hg
          dsimp only at hg
          refine TT_call (me' := mt_X2_bindTies) (as := [.ref (23 - p)]) (rest := []) (r1 := none) (h1 := (83, J9, R0 (23 - p))) rfl rfl (by rcases hp with rfl | rfl <;> rfl) (t_X2_bindTies (by rcases hp with rfl | rfl <;> decide) hq7) ?_
          refine TT_go 4 (pc' := 66) (lv' := [(1, .ref p), (0, .ref 0)]) (st' := [.ref (23 - p), .ref 31]) (h2 := (83, J9, R0 (23 - p))) (by rcases hp with rfl | rfl <;> rfl) ?_
          cases hq10 : g_X5_fill n (23 - p) J9 with
          | none => rw [hq10] at hg; cases hg
          | some w11 =>
            obtain ⟨J12, hJ12⟩ : ∃ J, J = w11 := ⟨_, rfl⟩
            rw [← hJ12] at hq10
            rw [hq10] at hg
            dsimp only at hg
            refine TT_call (me' := mt_X5_fill) (as := [.ref 31, .ref (23 - p)]) (rest := []) (r1 := none) (h1 := (83, J12, R0 (23 - p))) rfl rfl (by rcases hp with rfl | rfl <;> rfl) (t_X5_fill (by rcases hp with rfl | rfl <;> decide) hq10) ?_
            obtain ⟨J13, hJ13⟩ : ∃ x : IH, x = (up2 J12 35 0 0) := ⟨_, rfl⟩
            replace hg := bnd_use hJ13 hg
            refine TT_go 4 (pc' := 77) (lv' := [(1, .ref p), (0, .ref 0)]) (st' := []) (h2 := (83, J13, R0 (23 - p))) (by subst hJ13; rcases hp with rfl | rfl <;> rfl) ?_
            obtain ⟨J14, hJ14⟩ : ∃ x : IH, x = (up2 J13 40 0 0) := ⟨_, rfl⟩
            replace hg := bnd_use hJ14 hg
            refine TT_go 4 (pc' := 85) (lv' := [(1, .ref p), (0, .ref 0)]) (st' := []) (h2 := (83, J14, R0 (23 - p))) (by subst hJ14; rcases hp with rfl | rfl <;> rfl) ?_
            obtain ⟨J15, hJ15⟩ : ∃ x : IH, x = (up2 J14 0 12 0) := ⟨_, rfl⟩
            replace hg := bnd_use hJ15 hg
            refine TT_go 3 (pc' := 90) (lv' := [(1, .ref p), (0, .ref 0)]) (st' := []) (h2 := (83, J15, R0 (23 - p))) (by subst hJ15; rcases hp with rfl | rfl <;> rfl) ?_
            refine TT_go 3 (pc' := 97) (lv' := [(1, .ref p), (0, .ref 0)]) (st' := [.int (J15 ((23 - p)) 0)]) (h2 := (83, J15, R0 (23 - p))) (by rcases hp with rfl | rfl <;> rfl) ?_
            have hg := Option.some.inj hg
            subst hg
            exact TT_ret rfl rfl
    · rw [if_neg hc5] at hg
      refine TT_ine_t (t := 30) rfl rfl hc5 ?_
      refine TT_go 1 (pc' := 32) (lv' := [(0, .ref 0)]) (st' := [.int (-2)]) (h2 := (83, J3, R0 p)) (by rcases hp with rfl | rfl <;> rfl) ?_
      have hg := Option.some.inj hg
      subst hg
      exact TT_ret rfl rfl
def g_X8_isGlass (n : Nat) (p : Nat) (a0 : Int32) (I : IH) : Option (Int32 × IH) :=
  match g_X8_within n a0 0 ((I p 0) - 1) I with
  | none => none
  | some (r4, J3) =>
    if r4 = 0 ∨ r4 = 1 then some (r4, J3) else none
set_option maxRecDepth 20000 in
theorem t_X8_isGlass {p : Nat} (hp : p = 5 ∨ p = 18) {n : Nat} {a0 : Int32} {I : IH} {w : Int32 × IH} (hg : g_X8_isGlass n p a0 I = some w) : TT none mt_X8_isGlass 0 (lv_args 0 [.ref 0, .int a0]) [] (83, I, R0 p) (some (.int w.1)) (83, w.2, R0 p) := by
  unfold g_X8_isGlass at hg
  refine TT_go 7 (pc' := 11) (lv' := [(0, .ref 0), (1, .int a0)]) (st' := [.int ((I p 0) - 1), .int 0, .int a0]) (h2 := (83, I, R0 p)) (by rcases hp with rfl | rfl <;> rfl) ?_
  cases hq1 : g_X8_within n a0 0 ((I p 0) - 1) I with
  | none => rw [hq1] at hg; cases hg
  | some w2 =>
    obtain ⟨r4, J3⟩ := w2
    rw [hq1] at hg
    dsimp only at hg
    refine TT_call (me' := mt_X8_within) (as := [.int a0, .int 0, .int ((I p 0) - 1)]) (rest := []) (r1 := some (.int r4)) (h1 := (83, J3, R0 p)) rfl rfl (by rcases hp with rfl | rfl <;> rfl) (t_X8_within hq1) ?_
    refine TT_go 0 (pc' := 14) (lv' := [(0, .ref 0), (1, .int a0)]) (st' := [.int r4]) (h2 := (83, J3, R0 p)) (by rcases hp with rfl | rfl <;> rfl) ?_
    by_cases hc5 : r4 = 0 ∨ r4 = 1
    rotate_left
    · rw [if_neg hc5] at hg; cases hg
    rw [if_pos hc5] at hg
    have hg := Option.some.inj hg
    subst hg
    exact TT_ret rfl (if_pos hc5)
