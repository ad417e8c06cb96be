/-! Written by wip/whole/gen20.py. -/
def g_X9_pour_63 (n : Nat) (v1 : Int32) (v2 : Int32) (v3 : Int32) (v4 : Int32) (v5 : Int32) (I : IH) : Option (Int32 × IH) :=
  bnd (((2 * v1) + v2)) fun x28 =>
  bnd (((2 * v3) + v4)) fun x29 =>
  if inB x28 64 = true then
    bnd (I 74 (Int32.toNatClampNeg x28)) fun x31 =>
    if x31 < v5 then
      some ((-2), I)
    else
      if inB x29 64 = true then
        bnd (I 74 (Int32.toNatClampNeg x29)) fun x34 =>
        if (x34 + v5) ≤ 9999 then
          if inB x28 64 = true then
            bnd (I 74 (Int32.toNatClampNeg x28)) fun x37 =>
            if inB x28 64 = true then
              bnd (up2 I 74 (Int32.toNatClampNeg x28) (x37 - v5)) fun J39 =>
              if inB x29 64 = true then
                bnd (J39 74 (Int32.toNatClampNeg x29)) fun x41 =>
                if inB x29 64 = true then
                  bnd (up2 J39 74 (Int32.toNatClampNeg x29) (x41 + v5)) fun J43 =>
                  match g_X9_noteUndo n x28 x29 v5 J43 with
                  | none => none
                  | some J46 =>
                    if inB x29 64 = true then
                      bnd (J46 74 (Int32.toNatClampNeg x29)) fun x48 =>
                      some (x48, J46)
                    else none
                else none
              else none
            else none
          else none
        else
          some ((-2), I)
      else none
  else none
set_option maxRecDepth 20000 in
theorem t_X9_pour_63 {p : Nat} {n : Nat} {v1 : Int32} {v2 : Int32} {v3 : Int32} {v4 : Int32} {v5 : Int32} {I : IH} {w : Int32 × IH} (hg : g_X9_pour_63 n v1 v2 v3 v4 v5 I = some w) : TT none mt_X9_pour 63 [(0, .ref 55), (1, .int v1), (2, .int v2), (3, .int v3), (4, .int v4), (5, .int v5)] [] (83, I, R0 p) (some (.int w.1)) (83, w.2, R0 p) := by
  unfold g_X9_pour_63 at hg
  obtain ⟨x28, hx28⟩ : ∃ x : Int32, x = (((2 * v1) + v2)) := ⟨_, rfl⟩
  replace hg := bnd_use hx28 hg
  refine TT_go 6 (pc' := 70) (lv' := [(6, .int x28), (0, .ref 55), (1, .int v1), (2, .int v2), (3, .int v3), (4, .int v4), (5, .int v5)]) (st' := []) (h2 := (83, I, R0 p)) (by subst hx28; rfl) ?_
  obtain ⟨x29, hx29⟩ : ∃ x : Int32, x = (((2 * v3) + v4)) := ⟨_, rfl⟩
  replace hg := bnd_use hx29 hg
  refine TT_go 6 (pc' := 78) (lv' := [(7, .int x29), (6, .int x28), (0, .ref 55), (1, .int v1), (2, .int v2), (3, .int v3), (4, .int v4), (5, .int v5)]) (st' := []) (h2 := (83, I, R0 p)) (by subst hx29; rfl) ?_
  refine TT_go 3 (pc' := 84) (lv' := [(7, .int x29), (6, .int x28), (0, .ref 55), (1, .int v1), (2, .int v2), (3, .int v3), (4, .int v4), (5, .int v5)]) (st' := [.int x28, .ref 74]) (h2 := (83, I, R0 p)) (by rfl) ?_
  by_cases hb30 : inB x28 64 = true
  rotate_left
  · rw [if_neg hb30] at hg; cases hg
  rw [if_pos hb30] at hg
  refine TT_iald (n := 64) rfl (by rfl) hb30 ?_
  obtain ⟨x31, hx31⟩ : ∃ x : Int32, x = (I 74 (Int32.toNatClampNeg x28)) := ⟨_, rfl⟩
  replace hg := bnd_use hx31 hg
  refine TT_go 0 (pc' := 85) (lv' := [(7, .int x29), (6, .int x28), (0, .ref 55), (1, .int v1), (2, .int v2), (3, .int v3), (4, .int v4), (5, .int v5)]) (st' := [.int x31]) (h2 := (83, I, R0 p)) (by subst hx31; rfl) ?_
  refine TT_go 1 (pc' := 87) (lv' := [(7, .int x29), (6, .int x28), (0, .ref 55), (1, .int v1), (2, .int v2), (3, .int v3), (4, .int v4), (5, .int v5)]) (st' := [.int v5, .int x31]) (h2 := (83, I, R0 p)) (by rfl) ?_
  by_cases hc32 : x31 < v5
  · rw [if_pos hc32] at hg
    refine TT_ilt_t (t := 106) rfl rfl hc32 ?_
    refine TT_go 1 (pc' := 108) (lv' := [(7, .int x29), (6, .int x28), (0, .ref 55), (1, .int v1), (2, .int v2), (3, .int v3), (4, .int v4), (5, .int v5)]) (st' := [.int (-2)]) (h2 := (83, I, R0 p)) (by rfl) ?_
    have hg := Option.some.inj hg
    subst hg
    exact TT_ret rfl rfl
  · rw [if_neg hc32] at hg
    refine TT_ilt_f (t := 106) rfl rfl hc32 ?_
    refine TT_go 3 (pc' := 96) (lv' := [(7, .int x29), (6, .int x28), (0, .ref 55), (1, .int v1), (2, .int v2), (3, .int v3), (4, .int v4), (5, .int v5)]) (st' := [.int x29, .ref 74]) (h2 := (83, I, R0 p)) (by rfl) ?_
    by_cases hb33 : inB x29 64 = true
    rotate_left
    · rw [if_neg hb33] at hg; cases hg
    rw [if_pos hb33] at hg
    refine TT_iald (n := 64) rfl (by rfl) hb33 ?_
    obtain ⟨x34, hx34⟩ : ∃ x : Int32, x = (I 74 (Int32.toNatClampNeg x29)) := ⟨_, rfl⟩
    replace hg := bnd_use hx34 hg
    refine TT_go 0 (pc' := 97) (lv' := [(7, .int x29), (6, .int x28), (0, .ref 55), (1, .int v1), (2, .int v2), (3, .int v3), (4, .int v4), (5, .int v5)]) (st' := [.int x34]) (h2 := (83, I, R0 p)) (by subst hx34; rfl) ?_
    refine TT_go 3 (pc' := 103) (lv' := [(7, .int x29), (6, .int x28), (0, .ref 55), (1, .int v1), (2, .int v2), (3, .int v3), (4, .int v4), (5, .int v5)]) (st' := [.int 9999, .int (x34 + v5)]) (h2 := (83, I, R0 p)) (by rfl) ?_
    by_cases hc35 : (x34 + v5) ≤ 9999
    · rw [if_pos hc35] at hg
      refine TT_ile_t (t := 109) rfl rfl hc35 ?_
      refine TT_go 4 (pc' := 116) (lv' := [(7, .int x29), (6, .int x28), (0, .ref 55), (1, .int v1), (2, .int v2), (3, .int v3), (4, .int v4), (5, .int v5)]) (st' := [.int x28, .ref 74, .int x28, .ref 74]) (h2 := (83, I, R0 p)) (by rfl) ?_
      by_cases hb36 : inB x28 64 = true
      rotate_left
      · rw [if_neg hb36] at hg; cases hg
      rw [if_pos hb36] at hg
      refine TT_iald (n := 64) rfl (by rfl) hb36 ?_
      obtain ⟨x37, hx37⟩ : ∃ x : Int32, x = (I 74 (Int32.toNatClampNeg x28)) := ⟨_, rfl⟩
      replace hg := bnd_use hx37 hg
      refine TT_go 0 (pc' := 117) (lv' := [(7, .int x29), (6, .int x28), (0, .ref 55), (1, .int v1), (2, .int v2), (3, .int v3), (4, .int v4), (5, .int v5)]) (st' := [.int x37, .int x28, .ref 74]) (h2 := (83, I, R0 p)) (by subst hx37; rfl) ?_
      refine TT_go 2 (pc' := 120) (lv' := [(7, .int x29), (6, .int x28), (0, .ref 55), (1, .int v1), (2, .int v2), (3, .int v3), (4, .int v4), (5, .int v5)]) (st' := [.int (x37 - v5), .int x28, .ref 74]) (h2 := (83, I, R0 p)) (by rfl) ?_
      by_cases hb38 : inB x28 64 = true
      rotate_left
      · rw [if_neg hb38] at hg; cases hg
      rw [if_pos hb38] at hg
      refine TT_iast (n := 64) rfl (by rfl) hb38 ?_
      obtain ⟨J39, hJ39⟩ : ∃ x : IH, x = (up2 I 74 (Int32.toNatClampNeg x28) (x37 - v5)) := ⟨_, rfl⟩
      replace hg := bnd_use hJ39 hg
      refine TT_go 0 (pc' := 121) (lv' := [(7, .int x29), (6, .int x28), (0, .ref 55), (1, .int v1), (2, .int v2), (3, .int v3), (4, .int v4), (5, .int v5)]) (st' := []) (h2 := (83, J39, R0 p)) (by subst hJ39; rfl) ?_
      refine TT_go 4 (pc' := 128) (lv' := [(7, .int x29), (6, .int x28), (0, .ref 55), (1, .int v1), (2, .int v2), (3, .int v3), (4, .int v4), (5, .int v5)]) (st' := [.int x29, .ref 74, .int x29, .ref 74]) (h2 := (83, J39, R0 p)) (by rfl) ?_
      by_cases hb40 : inB x29 64 = true
      rotate_left
      · rw [if_neg hb40] at hg; cases hg
      rw [if_pos hb40] at hg
      refine TT_iald (n := 64) rfl (by rfl) hb40 ?_
      obtain ⟨x41, hx41⟩ : ∃ x : Int32, x = (J39 74 (Int32.toNatClampNeg x29)) := ⟨_, rfl⟩
      replace hg := bnd_use hx41 hg
      refine TT_go 0 (pc' := 129) (lv' := [(7, .int x29), (6, .int x28), (0, .ref 55), (1, .int v1), (2, .int v2), (3, .int v3), (4, .int v4), (5, .int v5)]) (st' := [.int x41, .int x29, .ref 74]) (h2 := (83, J39, R0 p)) (by subst hx41; rfl) ?_
      refine TT_go 2 (pc' := 132) (lv' := [(7, .int x29), (6, .int x28), (0, .ref 55), (1, .int v1), (2, .int v2), (3, .int v3), (4, .int v4), (5, .int v5)]) (st' := [.int (x41 + v5), .int x29, .ref 74]) (h2 := (83, J39, R0 p)) (by rfl) ?_
      by_cases hb42 : inB x29 64 = true
      rotate_left
      · rw [if_neg hb42] at hg; cases hg
      rw [if_pos hb42] at hg
      refine TT_iast (n := 64) rfl (by rfl) hb42 ?_
      obtain ⟨J43, hJ43⟩ : ∃ x : IH, x = (up2 J39 74 (Int32.toNatClampNeg x29) (x41 + v5)) := ⟨_, rfl⟩
      replace hg := bnd_use hJ43 hg
      refine TT_go 0 (pc' := 133) (lv' := [(7, .int x29), (6, .int x28), (0, .ref 55), (1, .int v1), (2, .int v2), (3, .int v3), (4, .int v4), (5, .int v5)]) (st' := []) (h2 := (83, J43, R0 p)) (by subst hJ43; rfl) ?_
      refine TT_go 4 (pc' := 140) (lv' := [(7, .int x29), (6, .int x28), (0, .ref 55), (1, .int v1), (2, .int v2), (3, .int v3), (4, .int v4), (5, .int v5)]) (st' := [.int v5, .int x29, .int x28, .ref 55]) (h2 := (83, J43, R0 p)) (by rfl) ?_
      cases hq44 : g_X9_noteUndo n x28 x29 v5 J43 with
      | none => rw [hq44] at hg; cases hg
      | some w45 =>
        obtain ⟨J46, hJ46⟩ : ∃ J, J = w45 := ⟨_, rfl⟩
        rw [← hJ46] at hq44
        rw [hq44] at hg
        dsimp only at hg
        refine TT_call (me' := mt_X9_noteUndo) (as := [.ref 55, .int x28, .int x29, .int v5]) (rest := []) (r1 := none) (h1 := (83, J46, R0 p)) rfl rfl (by rfl) (t_X9_noteUndo hq44) ?_
        refine TT_go 3 (pc' := 149) (lv' := [(7, .int x29), (6, .int x28), (0, .ref 55), (1, .int v1), (2, .int v2), (3, .int v3), (4, .int v4), (5, .int v5)]) (st' := [.int x29, .ref 74]) (h2 := (83, J46, R0 p)) (by rfl) ?_
        by_cases hb47 : inB x29 64 = true
        rotate_left
        · rw [if_neg hb47] at hg; cases hg
        rw [if_pos hb47] at hg
        refine TT_iald (n := 64) rfl (by rfl) hb47 ?_
        obtain ⟨x48, hx48⟩ : ∃ x : Int32, x = (J46 74 (Int32.toNatClampNeg x29)) := ⟨_, rfl⟩
        replace hg := bnd_use hx48 hg
        refine TT_go 0 (pc' := 150) (lv' := [(7, .int x29), (6, .int x28), (0, .ref 55), (1, .int v1), (2, .int v2), (3, .int v3), (4, .int v4), (5, .int v5)]) (st' := [.int x48]) (h2 := (83, J46, R0 p)) (by subst hx48; rfl) ?_
        have hg := Option.some.inj hg
        subst hg
        exact TT_ret rfl rfl
    · rw [if_neg hc35] at hg
      refine TT_ile_f (t := 109) rfl rfl hc35 ?_
      refine TT_go 1 (pc' := 108) (lv' := [(7, .int x29), (6, .int x28), (0, .ref 55), (1, .int v1), (2, .int v2), (3, .int v3), (4, .int v4), (5, .int v5)]) (st' := [.int (-2)]) (h2 := (83, I, R0 p)) (by rfl) ?_
      have hg := Option.some.inj hg
      subst hg
      exact TT_ret rfl rfl
def g_X9_pour (n : Nat) (a0 : Int32) (a1 : Int32) (a2 : Int32) (a3 : Int32) (a4 : Int32) (I : IH) : Option (Int32 × IH) :=
  match g_X9_isGlass n a0 I with
  | none => none
  | some (r4, J3) =>
    if r4 = 0 then
      some ((-1), J3)
    else
      match g_X9_in n (Int32.toInt64 a1) 0 1 J3 with
      | none => none
      | some (r9, J8) =>
        if r9 = 0 then
          some ((-1), J8)
        else
          match g_X9_isGlass n a2 J8 with
          | none => none
          | some (r14, J13) =>
            if r14 = 0 then
              some ((-1), J13)
            else
              match g_X9_in n (Int32.toInt64 a3) 0 1 J13 with
              | none => none
              | some (r19, J18) =>
                if r19 = 0 then
                  some ((-1), J18)
                else
                  match g_X9_in n (Int32.toInt64 a4) 1 9999 J18 with
                  | none => none
                  | some (r24, J23) =>
                    if r24 = 0 then
                      some ((-1), J23)
                    else
                      if a0 = a2 then
                        if a1 = a3 then
                          some ((-1), J23)
                        else
                          g_X9_pour_63 n a0 a1 a2 a3 a4 J23
                      else
                        g_X9_pour_63 n a0 a1 a2 a3 a4 J23
set_option maxRecDepth 20000 in
theorem t_X9_pour {p : Nat} {n : Nat} {a0 : Int32} {a1 : Int32} {a2 : Int32} {a3 : Int32} {a4 : Int32} {I : IH} {w : Int32 × IH} (hg : g_X9_pour n a0 a1 a2 a3 a4 I = some w) : TT none mt_X9_pour 0 (lv_args 0 [.ref 55, .int a0, .int a1, .int a2, .int a3, .int a4]) [] (83, I, R0 p) (some (.int w.1)) (83, w.2, R0 p) := by
  unfold g_X9_pour at hg
  refine TT_go 2 (pc' := 2) (lv' := [(0, .ref 55), (1, .int a0), (2, .int a1), (3, .int a2), (4, .int a3), (5, .int a4)]) (st' := [.int a0, .ref 55]) (h2 := (83, I, R0 p)) (by rfl) ?_
  cases hq1 : g_X9_isGlass n a0 I with
  | none => rw [hq1] at hg; cases hg
  | some w2 =>
    obtain ⟨r4, J3⟩ := w2
    rw [hq1] at hg
    dsimp only at hg
    refine TT_call (me' := mt_X9_isGlass) (as := [.ref 55, .int a0]) (rest := []) (r1 := some (.int r4)) (h1 := (83, J3, R0 p)) rfl rfl (by rfl) (t_X9_isGlass hq1) ?_
    refine TT_go 0 (pc' := 5) (lv' := [(0, .ref 55), (1, .int a0), (2, .int a1), (3, .int a2), (4, .int a3), (5, .int a4)]) (st' := [.int r4]) (h2 := (83, J3, R0 p)) (by rfl) ?_
    by_cases hc5 : r4 = 0
    · rw [if_pos hc5] at hg
      refine TT_zeq_t (t := 61) rfl rfl hc5 ?_
      refine TT_go 1 (pc' := 62) (lv' := [(0, .ref 55), (1, .int a0), (2, .int a1), (3, .int a2), (4, .int a3), (5, .int a4)]) (st' := [.int (-1)]) (h2 := (83, J3, R0 p)) (by rfl) ?_
      have hg := Option.some.inj hg
      subst hg
      exact TT_ret rfl rfl
    · rw [if_neg hc5] at hg
      refine TT_zeq_f (t := 61) rfl rfl hc5 ?_
      refine TT_go 4 (pc' := 12) (lv' := [(0, .ref 55), (1, .int a0), (2, .int a1), (3, .int a2), (4, .int a3), (5, .int a4)]) (st' := [.long 1, .long 0, .long (Int32.toInt64 a1)]) (h2 := (83, J3, R0 p)) (by rfl) ?_
      cases hq6 : g_X9_in n (Int32.toInt64 a1) 0 1 J3 with
      | none => rw [hq6] at hg; cases hg
      | some w7 =>
        obtain ⟨r9, J8⟩ := w7
        rw [hq6] at hg
        dsimp only at hg
        refine TT_call (me' := mt_X9_in) (as := [.long (Int32.toInt64 a1), .long 0, .long 1]) (rest := []) (r1 := some (.int r9)) (h1 := (83, J8, R0 p)) rfl rfl (by rfl) (t_X9_in hq6) ?_
        refine TT_go 0 (pc' := 15) (lv' := [(0, .ref 55), (1, .int a0), (2, .int a1), (3, .int a2), (4, .int a3), (5, .int a4)]) (st' := [.int r9]) (h2 := (83, J8, R0 p)) (by rfl) ?_
        by_cases hc10 : r9 = 0
        · rw [if_pos hc10] at hg
          refine TT_zeq_t (t := 61) rfl rfl hc10 ?_
          refine TT_go 1 (pc' := 62) (lv' := [(0, .ref 55), (1, .int a0), (2, .int a1), (3, .int a2), (4, .int a3), (5, .int a4)]) (st' := [.int (-1)]) (h2 := (83, J8, R0 p)) (by rfl) ?_
          have hg := Option.some.inj hg
          subst hg
          exact TT_ret rfl rfl
        · rw [if_neg hc10] at hg
          refine TT_zeq_f (t := 61) rfl rfl hc10 ?_
          refine TT_go 2 (pc' := 20) (lv' := [(0, .ref 55), (1, .int a0), (2, .int a1), (3, .int a2), (4, .int a3), (5, .int a4)]) (st' := [.int a2, .ref 55]) (h2 := (83, J8, R0 p)) (by rfl) ?_
          cases hq11 : g_X9_isGlass n a2 J8 with
          | none => rw [hq11] at hg; cases hg
          | some w12 =>
            obtain ⟨r14, J13⟩ := w12
            rw [hq11] at hg
            dsimp only at hg
            refine TT_call (me' := mt_X9_isGlass) (as := [.ref 55, .int a2]) (rest := []) (r1 := some (.int r14)) (h1 := (83, J13, R0 p)) rfl rfl (by rfl) (t_X9_isGlass hq11) ?_
            refine TT_go 0 (pc' := 23) (lv' := [(0, .ref 55), (1, .int a0), (2, .int a1), (3, .int a2), (4, .int a3), (5, .int a4)]) (st' := [.int r14]) (h2 := (83, J13, R0 p)) (by rfl) ?_
            by_cases hc15 : r14 = 0
            · rw [if_pos hc15] at hg
              refine TT_zeq_t (t := 61) rfl rfl hc15 ?_
              refine TT_go 1 (pc' := 62) (lv' := [(0, .ref 55), (1, .int a0), (2, .int a1), (3, .int a2), (4, .int a3), (5, .int a4)]) (st' := [.int (-1)]) (h2 := (83, J13, R0 p)) (by rfl) ?_
              have hg := Option.some.inj hg
              subst hg
              exact TT_ret rfl rfl
            · rw [if_neg hc15] at hg
              refine TT_zeq_f (t := 61) rfl rfl hc15 ?_
              refine TT_go 4 (pc' := 31) (lv' := [(0, .ref 55), (1, .int a0), (2, .int a1), (3, .int a2), (4, .int a3), (5, .int a4)]) (st' := [.long 1, .long 0, .long (Int32.toInt64 a3)]) (h2 := (83, J13, R0 p)) (by rfl) ?_
              cases hq16 : g_X9_in n (Int32.toInt64 a3) 0 1 J13 with
              | none => rw [hq16] at hg; cases hg
              | some w17 =>
                obtain ⟨r19, J18⟩ := w17
                rw [hq16] at hg
                dsimp only at hg
                refine TT_call (me' := mt_X9_in) (as := [.long (Int32.toInt64 a3), .long 0, .long 1]) (rest := []) (r1 := some (.int r19)) (h1 := (83, J18, R0 p)) rfl rfl (by rfl) (t_X9_in hq16) ?_
                refine TT_go 0 (pc' := 34) (lv' := [(0, .ref 55), (1, .int a0), (2, .int a1), (3, .int a2), (4, .int a3), (5, .int a4)]) (st' := [.int r19]) (h2 := (83, J18, R0 p)) (by rfl) ?_
                by_cases hc20 : r19 = 0
                · rw [if_pos hc20] at hg
                  refine TT_zeq_t (t := 61) rfl rfl hc20 ?_
                  refine TT_go 1 (pc' := 62) (lv' := [(0, .ref 55), (1, .int a0), (2, .int a1), (3, .int a2), (4, .int a3), (5, .int a4)]) (st' := [.int (-1)]) (h2 := (83, J18, R0 p)) (by rfl) ?_
                  have hg := Option.some.inj hg
                  subst hg
                  exact TT_ret rfl rfl
                · rw [if_neg hc20] at hg
                  refine TT_zeq_f (t := 61) rfl rfl hc20 ?_
                  refine TT_go 4 (pc' := 44) (lv' := [(0, .ref 55), (1, .int a0), (2, .int a1), (3, .int a2), (4, .int a3), (5, .int a4)]) (st' := [.long 9999, .long 1, .long (Int32.toInt64 a4)]) (h2 := (83, J18, R0 p)) (by rfl) ?_
                  cases hq21 : g_X9_in n (Int32.toInt64 a4) 1 9999 J18 with
                  | none => rw [hq21] at hg; cases hg
                  | some w22 =>
                    obtain ⟨r24, J23⟩ := w22
                    rw [hq21] at hg
                    dsimp only at hg
                    refine TT_call (me' := mt_X9_in) (as := [.long (Int32.toInt64 a4), .long 1, .long 9999]) (rest := []) (r1 := some (.int r24)) (h1 := (83, J23, R0 p)) rfl rfl (by rfl) (t_X9_in hq21) ?_
                    refine TT_go 0 (pc' := 47) (lv' := [(0, .ref 55), (1, .int a0), (2, .int a1), (3, .int a2), (4, .int a3), (5, .int a4)]) (st' := [.int r24]) (h2 := (83, J23, R0 p)) (by rfl) ?_
                    by_cases hc25 : r24 = 0
                    · rw [if_pos hc25] at hg
                      refine TT_zeq_t (t := 61) rfl rfl hc25 ?_
                      refine TT_go 1 (pc' := 62) (lv' := [(0, .ref 55), (1, .int a0), (2, .int a1), (3, .int a2), (4, .int a3), (5, .int a4)]) (st' := [.int (-1)]) (h2 := (83, J23, R0 p)) (by rfl) ?_
                      have hg := Option.some.inj hg
                      subst hg
                      exact TT_ret rfl rfl
                    · rw [if_neg hc25] at hg
                      refine TT_zeq_f (t := 61) rfl rfl hc25 ?_
                      refine TT_go 2 (pc' := 52) (lv' := [(0, .ref 55), (1, .int a0), (2, .int a1), (3, .int a2), (4, .int a3), (5, .int a4)]) (st' := [.int a2, .int a0]) (h2 := (83, J23, R0 p)) (by rfl) ?_
                      by_cases hc26 : a0 = a2
                      · rw [if_pos hc26] at hg
                        refine TT_ine_f (t := 63) rfl rfl hc26 ?_
                        refine TT_go 2 (pc' := 58) (lv' := [(0, .ref 55), (1, .int a0), (2, .int a1), (3, .int a2), (4, .int a3), (5, .int a4)]) (st' := [.int a3, .int a1]) (h2 := (83, J23, R0 p)) (by rfl) ?_
                        by_cases hc27 : a1 = a3
                        · rw [if_pos hc27] at hg
                          refine TT_ine_f (t := 63) rfl rfl hc27 ?_
                          refine TT_go 1 (pc' := 62) (lv' := [(0, .ref 55), (1, .int a0), (2, .int a1), (3, .int a2), (4, .int a3), (5, .int a4)]) (st' := [.int (-1)]) (h2 := (83, J23, R0 p)) (by rfl) ?_
                          have hg := Option.some.inj hg
                          subst hg
                          exact TT_ret rfl rfl
                        · rw [if_neg hc27] at hg
                          refine TT_ine_t (t := 63) rfl rfl hc27 ?_
                          refine TT_go 0 (pc' := 63) (lv' := [(0, .ref 55), (1, .int a0), (2, .int a1), (3, .int a2), (4, .int a3), (5, .int a4)]) (st' := []) (h2 := (83, J23, R0 p)) (by rfl) ?_
                          refine TT_sub (lv2 := [(0, .ref 55), (1, .int a0), (2, .int a1), (3, .int a2), (4, .int a3), (5, .int a4)]) rfl rfl ⟨rfl, rfl, rfl, rfl, rfl, rfl, trivial⟩ ?_
                          exact t_X9_pour_63 hg
                      · rw [if_neg hc26] at hg
                        refine TT_ine_t (t := 63) rfl rfl hc26 ?_
                        refine TT_go 0 (pc' := 63) (lv' := [(0, .ref 55), (1, .int a0), (2, .int a1), (3, .int a2), (4, .int a3), (5, .int a4)]) (st' := []) (h2 := (83, J23, R0 p)) (by rfl) ?_
                        refine TT_sub (lv2 := [(0, .ref 55), (1, .int a0), (2, .int a1), (3, .int a2), (4, .int a3), (5, .int a4)]) rfl rfl ⟨rfl, rfl, rfl, rfl, rfl, rfl, trivial⟩ ?_
                        exact t_X9_pour_63 hg
def g_X9_undo (n : Nat) (I : IH) : Option (Int32 × IH) :=
  if (I 55 25) = 0 then
    some ((-2), I)
  else
    bnd (up2 I 55 25 ((I 55 25) - 1)) fun J2 =>
    bnd ((3 * (J2 55 25))) fun x3 =>
    if inB x3 24 = true then
      bnd (J2 79 (Int32.toNatClampNeg x3)) fun x5 =>
      if 0 ≤ x5 then
        if inB x3 24 = true then
          bnd (J2 79 (Int32.toNatClampNeg x3)) fun x8 =>
          if inB x8 64 = true then
            bnd (J2 74 (Int32.toNatClampNeg x8)) fun x10 =>
            if inB (x3 + 2) 24 = true then
              bnd (J2 79 (Int32.toNatClampNeg (x3 + 2))) fun x12 =>
              if inB x8 64 = true then
                bnd (up2 J2 74 (Int32.toNatClampNeg x8) (x10 + x12)) fun J14 =>
                if inB (x3 + 1) 24 = true then
                  bnd (J14 79 (Int32.toNatClampNeg (x3 + 1))) fun x16 =>
                  if inB x16 64 = true then
                    bnd (J14 74 (Int32.toNatClampNeg x16)) fun x18 =>
                    if inB (x3 + 2) 24 = true then
                      bnd (J14 79 (Int32.toNatClampNeg (x3 + 2))) fun x20 =>
                      if inB x16 64 = true then
                        bnd (up2 J14 74 (Int32.toNatClampNeg x16) (x18 - x20)) fun J22 =>
                        some ((J22 55 25), J22)
                      else none
                    else none
                  else none
                else none
              else none
            else none
          else none
        else none
      else
        if inB (x3 + 1) 24 = true then
          bnd (J2 79 (Int32.toNatClampNeg (x3 + 1))) fun x24 =>
          match g_X9_turnOf n 0 x24 J2 with
          | none => none
          | some (r28, J27) =>
            some ((J27 55 25), J27)
        else none
    else none
set_option maxRecDepth 20000 in
theorem t_X9_undo {p : Nat} {n : Nat} {I : IH} {w : Int32 × IH} (hg : g_X9_undo n I = some w) : TT none mt_X9_undo 0 (lv_args 0 [.ref 55]) [] (83, I, R0 p) (some (.int w.1)) (83, w.2, R0 p) := by
  unfold g_X9_undo at hg
  refine TT_go 2 (pc' := 4) (lv' := [(0, .ref 55)]) (st' := [.int (I 55 25)]) (h2 := (83, I, R0 p)) (by rfl) ?_
  by_cases hc1 : (I 55 25) = 0
  · rw [if_pos hc1] at hg
    refine TT_zne_f (t := 10) rfl rfl hc1 ?_
    refine TT_go 1 (pc' := 9) (lv' := [(0, .ref 55)]) (st' := [.int (-2)]) (h2 := (83, I, R0 p)) (by rfl) ?_
    have hg := Option.some.inj hg
    subst hg
    exact TT_ret rfl rfl
  · rw [if_neg hc1] at hg
    refine TT_zne_t (t := 10) rfl rfl hc1 ?_
    obtain ⟨J2, hJ2⟩ : ∃ x : IH, x = (up2 I 55 25 ((I 55 25) - 1)) := ⟨_, rfl⟩
    replace hg := bnd_use hJ2 hg
    refine TT_go 6 (pc' := 20) (lv' := [(0, .ref 55)]) (st' := []) (h2 := (83, J2, R0 p)) (by subst hJ2; rfl) ?_
    obtain ⟨x3, hx3⟩ : ∃ x : Int32, x = ((3 * (J2 55 25))) := ⟨_, rfl⟩
    replace hg := bnd_use hx3 hg
    refine TT_go 5 (pc' := 27) (lv' := [(1, .int x3), (0, .ref 55)]) (st' := []) (h2 := (83, J2, R0 p)) (by subst hx3; rfl) ?_
    refine TT_go 3 (pc' := 32) (lv' := [(1, .int x3), (0, .ref 55)]) (st' := [.int x3, .ref 79]) (h2 := (83, J2, R0 p)) (by rfl) ?_
    by_cases hb4 : inB x3 24 = true
    rotate_left
    · rw [if_neg hb4] at hg; cases hg
    rw [if_pos hb4] at hg
    refine TT_iald (n := 24) rfl (by rfl) hb4 ?_
    obtain ⟨x5, hx5⟩ : ∃ x : Int32, x = (J2 79 (Int32.toNatClampNeg x3)) := ⟨_, rfl⟩
    replace hg := bnd_use hx5 hg
    refine TT_go 0 (pc' := 33) (lv' := [(1, .int x3), (0, .ref 55)]) (st' := [.int x5]) (h2 := (83, J2, R0 p)) (by subst hx5; rfl) ?_
    by_cases hc6 : 0 ≤ x5
    · rw [if_pos hc6] at hg
      refine TT_zge_t (t := 53) rfl rfl hc6 ?_
      refine TT_go 5 (pc' := 62) (lv' := [(1, .int x3), (0, .ref 55)]) (st' := [.int x3, .ref 79, .ref 74]) (h2 := (83, J2, R0 p)) (by rfl) ?_
      by_cases hb7 : inB x3 24 = true
      rotate_left
      · rw [if_neg hb7] at hg; cases hg
      rw [if_pos hb7] at hg
      refine TT_iald (n := 24) rfl (by rfl) hb7 ?_
      obtain ⟨x8, hx8⟩ : ∃ x : Int32, x = (J2 79 (Int32.toNatClampNeg x3)) := ⟨_, rfl⟩
      replace hg := bnd_use hx8 hg
      refine TT_go 0 (pc' := 63) (lv' := [(1, .int x3), (0, .ref 55)]) (st' := [.int x8, .ref 74]) (h2 := (83, J2, R0 p)) (by subst hx8; rfl) ?_
      refine TT_go 1 (pc' := 64) (lv' := [(1, .int x3), (0, .ref 55)]) (st' := [.int x8, .ref 74, .int x8, .ref 74]) (h2 := (83, J2, R0 p)) (by rfl) ?_
      by_cases hb9 : inB x8 64 = true
      rotate_left
      · rw [if_neg hb9] at hg; cases hg
      rw [if_pos hb9] at hg
      refine TT_iald (n := 64) rfl (by rfl) hb9 ?_
      obtain ⟨x10, hx10⟩ : ∃ x : Int32, x = (J2 74 (Int32.toNatClampNeg x8)) := ⟨_, rfl⟩
      replace hg := bnd_use hx10 hg
      refine TT_go 0 (pc' := 65) (lv' := [(1, .int x3), (0, .ref 55)]) (st' := [.int x10, .int x8, .ref 74]) (h2 := (83, J2, R0 p)) (by subst hx10; rfl) ?_
      refine TT_go 5 (pc' := 72) (lv' := [(1, .int x3), (0, .ref 55)]) (st' := [.int (x3 + 2), .ref 79, .int x10, .int x8, .ref 74]) (h2 := (83, J2, R0 p)) (by rfl) ?_
      by_cases hb11 : inB (x3 + 2) 24 = true
      rotate_left
      · rw [if_neg hb11] at hg; cases hg
      rw [if_pos hb11] at hg
      refine TT_iald (n := 24) rfl (by rfl) hb11 ?_
      obtain ⟨x12, hx12⟩ : ∃ x : Int32, x = (J2 79 (Int32.toNatClampNeg (x3 + 2))) := ⟨_, rfl⟩
      replace hg := bnd_use hx12 hg
      refine TT_go 0 (pc' := 73) (lv' := [(1, .int x3), (0, .ref 55)]) (st' := [.int x12, .int x10, .int x8, .ref 74]) (h2 := (83, J2, R0 p)) (by subst hx12; rfl) ?_
      refine TT_go 1 (pc' := 74) (lv' := [(1, .int x3), (0, .ref 55)]) (st' := [.int (x10 + x12), .int x8, .ref 74]) (h2 := (83, J2, R0 p)) (by rfl) ?_
      by_cases hb13 : inB x8 64 = true
      rotate_left
      · rw [if_neg hb13] at hg; cases hg
      rw [if_pos hb13] at hg
      refine TT_iast (n := 64) rfl (by rfl) hb13 ?_
      obtain ⟨J14, hJ14⟩ : ∃ x : IH, x = (up2 J2 74 (Int32.toNatClampNeg x8) (x10 + x12)) := ⟨_, rfl⟩
      replace hg := bnd_use hJ14 hg
      refine TT_go 0 (pc' := 75) (lv' := [(1, .int x3), (0, .ref 55)]) (st' := []) (h2 := (83, J14, R0 p)) (by subst hJ14; rfl) ?_
      refine TT_go 7 (pc' := 86) (lv' := [(1, .int x3), (0, .ref 55)]) (st' := [.int (x3 + 1), .ref 79, .ref 74]) (h2 := (83, J14, R0 p)) (by rfl) ?_
      by_cases hb15 : inB (x3 + 1) 24 = true
      rotate_left
      · rw [if_neg hb15] at hg; cases hg
      rw [if_pos hb15] at hg
      refine TT_iald (n := 24) rfl (by rfl) hb15 ?_
      obtain ⟨x16, hx16⟩ : ∃ x : Int32, x = (J14 79 (Int32.toNatClampNeg (x3 + 1))) := ⟨_, rfl⟩
      replace hg := bnd_use hx16 hg
      refine TT_go 0 (pc' := 87) (lv' := [(1, .int x3), (0, .ref 55)]) (st' := [.int x16, .ref 74]) (h2 := (83, J14, R0 p)) (by subst hx16; rfl) ?_
      refine TT_go 1 (pc' := 88) (lv' := [(1, .int x3), (0, .ref 55)]) (st' := [.int x16, .ref 74, .int x16, .ref 74]) (h2 := (83, J14, R0 p)) (by rfl) ?_
      by_cases hb17 : inB x16 64 = true
      rotate_left
      · rw [if_neg hb17] at hg; cases hg
      rw [if_pos hb17] at hg
      refine TT_iald (n := 64) rfl (by rfl) hb17 ?_
      obtain ⟨x18, hx18⟩ : ∃ x : Int32, x = (J14 74 (Int32.toNatClampNeg x16)) := ⟨_, rfl⟩
      replace hg := bnd_use hx18 hg
      refine TT_go 0 (pc' := 89) (lv' := [(1, .int x3), (0, .ref 55)]) (st' := [.int x18, .int x16, .ref 74]) (h2 := (83, J14, R0 p)) (by subst hx18; rfl) ?_
      refine TT_go 5 (pc' := 96) (lv' := [(1, .int x3), (0, .ref 55)]) (st' := [.int (x3 + 2), .ref 79, .int x18, .int x16, .ref 74]) (h2 := (83, J14, R0 p)) (by rfl) ?_
      by_cases hb19 : inB (x3 + 2) 24 = true
      rotate_left
      · rw [if_neg hb19] at hg; cases hg
      rw [if_pos hb19] at hg
      refine TT_iald (n := 24) rfl (by rfl) hb19 ?_
      obtain ⟨x20, hx20⟩ : ∃ x : Int32, x = (J14 79 (Int32.toNatClampNeg (x3 + 2))) := ⟨_, rfl⟩
      replace hg := bnd_use hx20 hg
      refine TT_go 0 (pc' := 97) (lv' := [(1, .int x3), (0, .ref 55)]) (st' := [.int x20, .int x18, .int x16, .ref 74]) (h2 := (83, J14, R0 p)) (by subst hx20; rfl) ?_
      refine TT_go 1 (pc' := 98) (lv' := [(1, .int x3), (0, .ref 55)]) (st' := [.int (x18 - x20), .int x16, .ref 74]) (h2 := (83, J14, R0 p)) (by rfl) ?_
      by_cases hb21 : inB x16 64 = true
      rotate_left
      · rw [if_neg hb21] at hg; cases hg
      rw [if_pos hb21] at hg
      refine TT_iast (n := 64) rfl (by rfl) hb21 ?_
      obtain ⟨J22, hJ22⟩ : ∃ x : IH, x = (up2 J14 74 (Int32.toNatClampNeg x16) (x18 - x20)) := ⟨_, rfl⟩
      replace hg := bnd_use hJ22 hg
      refine TT_go 0 (pc' := 99) (lv' := [(1, .int x3), (0, .ref 55)]) (st' := []) (h2 := (83, J22, R0 p)) (by subst hJ22; rfl) ?_
      refine TT_go 2 (pc' := 103) (lv' := [(1, .int x3), (0, .ref 55)]) (st' := [.int (J22 55 25)]) (h2 := (83, J22, R0 p)) (by rfl) ?_
      have hg := Option.some.inj hg
      subst hg
      exact TT_ret rfl rfl
    · rw [if_neg hc6] at hg
      refine TT_zge_f (t := 53) rfl rfl hc6 ?_
      refine TT_go 7 (pc' := 45) (lv' := [(1, .int x3), (0, .ref 55)]) (st' := [.int (x3 + 1), .ref 79, .int 0, .ref 55]) (h2 := (83, J2, R0 p)) (by rfl) ?_
      by_cases hb23 : inB (x3 + 1) 24 = true
      rotate_left
      · rw [if_neg hb23] at hg; cases hg
      rw [if_pos hb23] at hg
      refine TT_iald (n := 24) rfl (by rfl) hb23 ?_
      obtain ⟨x24, hx24⟩ : ∃ x : Int32, x = (J2 79 (Int32.toNatClampNeg (x3 + 1))) := ⟨_, rfl⟩
      replace hg := bnd_use hx24 hg
      refine TT_go 0 (pc' := 46) (lv' := [(1, .int x3), (0, .ref 55)]) (st' := [.int x24, .int 0, .ref 55]) (h2 := (83, J2, R0 p)) (by subst hx24; rfl) ?_
      cases hq25 : g_X9_turnOf n 0 x24 J2 with
      | none => rw [hq25] at hg; cases hg
      | some w26 =>
        obtain ⟨r28, J27⟩ := w26
        rw [hq25] at hg
        dsimp only at hg
        refine TT_call (me' := mt_X9_turnOf) (as := [.ref 55, .int 0, .int x24]) (rest := []) (r1 := some (.int r28)) (h1 := (83, J27, R0 p)) rfl rfl (by rfl) (t_X9_turnOf hq25) ?_
        refine TT_go 4 (pc' := 103) (lv' := [(1, .int x3), (0, .ref 55)]) (st' := [.int (J27 55 25)]) (h2 := (83, J27, R0 p)) (by rfl) ?_
        have hg := Option.some.inj hg
        subst hg
        exact TT_ret rfl rfl
def g_X9_runOn_62 (n : Nat) (k34 : Int32 → Int32 → IH → Option (IH)) (v1 : Int32) (v2 : Int32) (t0 : Int32) (t1 : Int32) (I : IH) : Option (IH) :=
  bnd (up2 I 55 32 (t1 + t0)) fun J15 =>
  match g_X9_fall n 1 J15 with
  | none => none
  | some J18 =>
    bnd (v2 + 1) fun x19 =>
    k34 v1 x19 J18
set_option maxRecDepth 20000 in
theorem t_X9_runOn_62 {p : Nat} {n : Nat} {k34 : Int32 → Int32 → IH → Option (IH)} (hk34 : ∀ (v1 : Int32) (v2 : Int32) (I : IH) (w : IH), k34 v1 v2 I = some w → TT none mt_X9_runOn 34 [(0, .ref 55), (1, .int v1), (2, .int v2)] [] (83, I, R0 p) none (83, w, R0 p)) {v1 : Int32} {v2 : Int32} {t0 : Int32} {t1 : Int32} {I : IH} {w : IH} (hg : g_X9_runOn_62 n k34 v1 v2 t0 t1 I = some w) : TT none mt_X9_runOn 62 [(0, .ref 55), (1, .int v1), (2, .int v2)] [.int t0, .int t1, .ref 55] (83, I, R0 p) none (83, w, R0 p) := by
  unfold g_X9_runOn_62 at hg
  obtain ⟨J15, hJ15⟩ : ∃ x : IH, x = (up2 I 55 32 (t1 + t0)) := ⟨_, rfl⟩
  replace hg := bnd_use hJ15 hg
  refine TT_go 2 (pc' := 66) (lv' := [(0, .ref 55), (1, .int v1), (2, .int v2)]) (st' := []) (h2 := (83, J15, R0 p)) (by subst hJ15; rfl) ?_
  refine TT_go 2 (pc' := 68) (lv' := [(0, .ref 55), (1, .int v1), (2, .int v2)]) (st' := [.int 1, .ref 55]) (h2 := (83, J15, R0 p)) (by rfl) ?_
  cases hq16 : g_X9_fall n 1 J15 with
  | none => rw [hq16] at hg; cases hg
  | some w17 =>
    obtain ⟨J18, hJ18⟩ : ∃ J, J = w17 := ⟨_, rfl⟩
    rw [← hJ18] at hq16
    rw [hq16] at hg
    dsimp only at hg
    refine TT_call (me' := mt_X9_fall) (as := [.ref 55, .int 1]) (rest := []) (r1 := none) (h1 := (83, J18, R0 p)) rfl rfl (by rfl) (t_X9_fall hq16) ?_
    obtain ⟨x19, hx19⟩ : ∃ x : Int32, x = (v2 + 1) := ⟨_, rfl⟩
    replace hg := bnd_use hx19 hg
    refine TT_go 1 (pc' := 74) (lv' := [(2, .int x19), (0, .ref 55), (1, .int v1)]) (st' := []) (h2 := (83, J18, R0 p)) (by subst hx19; rfl) ?_
    refine TT_go 1 (pc' := 34) (lv' := [(2, .int x19), (0, .ref 55), (1, .int v1)]) (st' := []) (h2 := (83, J18, R0 p)) (by rfl) ?_
    refine TT_sub (lv2 := [(0, .ref 55), (1, .int v1), (2, .int x19)]) rfl rfl ⟨rfl, rfl, rfl, trivial⟩ ?_
    exact hk34 v1 x19 _ _ hg
def g_X9_runOn_34 : Nat → Int32 → Int32 → IH → Option (IH)
  | 0, _, _, _ => none
  | n + 1, v1, v2, I =>
    if v1 ≤ v2 then
      some I
    else
      match g_X9_clerks n 1 I with
      | none => none
      | some J9 =>
        match g_X9_standing n 1 J9 with
        | none => none
        | some (r13, J12) =>
          if r13 ≤ 0 then
            g_X9_runOn_62 n (g_X9_runOn_34 n) v1 v2 0 ((J9 55 32)) J12
          else
            g_X9_runOn_62 n (g_X9_runOn_34 n) v1 v2 1 ((J9 55 32)) J12
set_option maxRecDepth 20000 in
theorem t_X9_runOn_34 {p : Nat} : ∀ (n : Nat) (v1 : Int32) (v2 : Int32) (I : IH) (w : IH), g_X9_runOn_34 n v1 v2 I = some w → TT none mt_X9_runOn 34 [(0, .ref 55), (1, .int v1), (2, .int v2)] [] (83, I, R0 p) none (83, w, R0 p) := by
  intro n
  induction n with
  | zero => intro v1 v2 I w hg; cases hg
  | succ n ih =>
    intro v1 v2 I w hg
    unfold g_X9_runOn_34 at hg
    refine TT_go 2 (pc' := 36) (lv' := [(0, .ref 55), (1, .int v1), (2, .int v2)]) (st' := [.int v1, .int v2]) (h2 := (83, I, R0 p)) (by rfl) ?_
    by_cases hc6 : v1 ≤ v2
    · rw [if_pos hc6] at hg
      refine TT_ige_t (t := 77) rfl rfl hc6 ?_
      refine TT_go 0 (pc' := 77) (lv' := [(0, .ref 55), (1, .int v1), (2, .int v2)]) (st' := []) (h2 := (83, I, R0 p)) (by rfl) ?_
      have hg := Option.some.inj hg
      subst hg
      exact TT_ret rfl rfl
    · rw [if_neg hc6] at hg
      refine TT_ige_f (t := 77) rfl rfl hc6 ?_
      refine TT_go 2 (pc' := 41) (lv' := [(0, .ref 55), (1, .int v1), (2, .int v2)]) (st' := [.int 1, .ref 55]) (h2 := (83, I, R0 p)) (by rfl) ?_
      cases hq7 : g_X9_clerks n 1 I with
      | none => rw [hq7] at hg; cases hg
      | some w8 =>
        obtain ⟨J9, hJ9⟩ : ∃ J, J = w8 := ⟨_, rfl⟩
        rw [← hJ9] at hq7
        rw [hq7] at hg
        dsimp only at hg
        refine TT_call (me' := mt_X9_clerks) (as := [.ref 55, .int 1]) (rest := []) (r1 := none) (h1 := (83, J9, R0 p)) rfl rfl (by rfl) (t_X9_clerks hq7) ?_
        refine TT_go 5 (pc' := 51) (lv' := [(0, .ref 55), (1, .int v1), (2, .int v2)]) (st' := [.int 1, .ref 55, .int (J9 55 32), .ref 55]) (h2 := (83, J9, R0 p)) (by rfl) ?_
        cases hq10 : g_X9_standing n 1 J9 with
        | none => rw [hq10] at hg; cases hg
        | some w11 =>
          obtain ⟨r13, J12⟩ := w11
          rw [hq10] at hg
          dsimp only at hg
          refine TT_call (me' := mt_X9_standing) (as := [.ref 55, .int 1]) (rest := [.int (J9 55 32), .ref 55]) (r1 := some (.int r13)) (h1 := (83, J12, R0 p)) rfl rfl (by rfl) (t_X9_standing hq10) ?_
          refine TT_go 0 (pc' := 54) (lv' := [(0, .ref 55), (1, .int v1), (2, .int v2)]) (st' := [.int r13, .int (J9 55 32), .ref 55]) (h2 := (83, J12, R0 p)) (by rfl) ?_
          by_cases hc14 : r13 ≤ 0
          · rw [if_pos hc14] at hg
            refine TT_zle_t (t := 61) rfl rfl hc14 ?_
            refine TT_go 1 (pc' := 62) (lv' := [(0, .ref 55), (1, .int v1), (2, .int v2)]) (st' := [.int 0, .int (J9 55 32), .ref 55]) (h2 := (83, J12, R0 p)) (by rfl) ?_
            refine TT_sub (lv2 := [(0, .ref 55), (1, .int v1), (2, .int v2)]) rfl rfl ⟨rfl, rfl, rfl, trivial⟩ ?_
            exact t_X9_runOn_62 ih hg
          · rw [if_neg hc14] at hg
            refine TT_zle_f (t := 61) rfl rfl hc14 ?_
            refine TT_go 2 (pc' := 62) (lv' := [(0, .ref 55), (1, .int v1), (2, .int v2)]) (st' := [.int 1, .int (J9 55 32), .ref 55]) (h2 := (83, J12, R0 p)) (by rfl) ?_
            refine TT_sub (lv2 := [(0, .ref 55), (1, .int v1), (2, .int v2)]) rfl rfl ⟨rfl, rfl, rfl, trivial⟩ ?_
            exact t_X9_runOn_62 ih hg
def g_X9_runOn_13 : Nat → Int32 → Int32 → IH → Option (IH)
  | 0, _, _, _ => none
  | n + 1, v1, v2, I =>
    if 16 ≤ v2 then
      g_X9_runOn_34 n v1 0 I
    else
      if inB v2 16 = true then
        bnd (up2 I 81 (Int32.toNatClampNeg v2) 0) fun J21 =>
        bnd (v2 + 1) fun x22 =>
        g_X9_runOn_13 n v1 x22 J21
      else none
set_option maxRecDepth 20000 in
theorem t_X9_runOn_13 {p : Nat} : ∀ (n : Nat) (v1 : Int32) (v2 : Int32) (I : IH) (w : IH), g_X9_runOn_13 n v1 v2 I = some w → TT none mt_X9_runOn 13 [(0, .ref 55), (1, .int v1), (2, .int v2)] [] (83, I, R0 p) none (83, w, R0 p) := by
  intro n
  induction n with
  | zero => intro v1 v2 I w hg; cases hg
  | succ n ih =>
    intro v1 v2 I w hg
    unfold g_X9_runOn_13 at hg
    refine TT_go 2 (pc' := 16) (lv' := [(0, .ref 55), (1, .int v1), (2, .int v2)]) (st' := [.int 16, .int v2]) (h2 := (83, I, R0 p)) (by rfl) ?_
    by_cases hc5 : 16 ≤ v2
    · rw [if_pos hc5] at hg
      refine TT_ige_t (t := 32) rfl rfl hc5 ?_
      refine TT_go 2 (pc' := 34) (lv' := [(2, .int 0), (0, .ref 55), (1, .int v1)]) (st' := []) (h2 := (83, I, R0 p)) (by rfl) ?_
      refine TT_sub (lv2 := [(0, .ref 55), (1, .int v1), (2, .int 0)]) rfl rfl ⟨rfl, rfl, rfl, trivial⟩ ?_
      exact t_X9_runOn_34 n v1 0 _ _ hg
    · rw [if_neg hc5] at hg
      refine TT_ige_f (t := 32) rfl rfl hc5 ?_
      refine TT_go 4 (pc' := 25) (lv' := [(0, .ref 55), (1, .int v1), (2, .int v2)]) (st' := [.int 0, .int v2, .ref 81]) (h2 := (83, I, R0 p)) (by rfl) ?_
      by_cases hb20 : inB v2 16 = true
      rotate_left
      · rw [if_neg hb20] at hg; cases hg
      rw [if_pos hb20] at hg
      refine TT_iast (n := 16) rfl (by rfl) hb20 ?_
      obtain ⟨J21, hJ21⟩ : ∃ x : IH, x = (up2 I 81 (Int32.toNatClampNeg v2) 0) := ⟨_, rfl⟩
      replace hg := bnd_use hJ21 hg
      refine TT_go 0 (pc' := 26) (lv' := [(0, .ref 55), (1, .int v1), (2, .int v2)]) (st' := []) (h2 := (83, J21, R0 p)) (by subst hJ21; rfl) ?_
      obtain ⟨x22, hx22⟩ : ∃ x : Int32, x = (v2 + 1) := ⟨_, rfl⟩
      replace hg := bnd_use hx22 hg
      refine TT_go 1 (pc' := 29) (lv' := [(2, .int x22), (0, .ref 55), (1, .int v1)]) (st' := []) (h2 := (83, J21, R0 p)) (by subst hx22; rfl) ?_
      refine TT_go 1 (pc' := 13) (lv' := [(2, .int x22), (0, .ref 55), (1, .int v1)]) (st' := []) (h2 := (83, J21, R0 p)) (by rfl) ?_
      refine TT_sub (lv2 := [(0, .ref 55), (1, .int v1), (2, .int x22)]) rfl rfl ⟨rfl, rfl, rfl, trivial⟩ ?_
      exact ih v1 x22 _ _ hg
def g_X9_runOn (n : Nat) (a0 : Int32) (I : IH) : Option (IH) :=
  match g_X9_copy n 0 1 I with
  | none => none
  | some J3 =>
    bnd (up2 J3 55 32 0) fun J4 =>
    g_X9_runOn_13 n a0 0 J4
set_option maxRecDepth 20000 in
theorem t_X9_runOn {p : Nat} {n : Nat} {a0 : Int32} {I : IH} {w : IH} (hg : g_X9_runOn n a0 I = some w) : TT none mt_X9_runOn 0 (lv_args 0 [.ref 55, .int a0]) [] (83, I, R0 p) none (83, w, R0 p) := by
  unfold g_X9_runOn at hg
  refine TT_go 3 (pc' := 3) (lv' := [(0, .ref 55), (1, .int a0)]) (st' := [.int 1, .int 0, .ref 55]) (h2 := (83, I, R0 p)) (by rfl) ?_
  cases hq1 : g_X9_copy n 0 1 I with
  | none => rw [hq1] at hg; cases hg
  | some w2 =>
    obtain ⟨J3, hJ3⟩ : ∃ J, J = w2 := ⟨_, rfl⟩
    rw [← hJ3] at hq1
    rw [hq1] at hg
    dsimp only at hg
    refine TT_call (me' := mt_X9_copy) (as := [.ref 55, .int 0, .int 1]) (rest := []) (r1 := none) (h1 := (83, J3, R0 p)) rfl rfl (by rfl) (t_X9_copy hq1) ?_
    obtain ⟨J4, hJ4⟩ : ∃ x : IH, x = (up2 J3 55 32 0) := ⟨_, rfl⟩
    replace hg := bnd_use hJ4 hg
    refine TT_go 3 (pc' := 11) (lv' := [(0, .ref 55), (1, .int a0)]) (st' := []) (h2 := (83, J4, R0 p)) (by subst hJ4; rfl) ?_
    refine TT_go 2 (pc' := 13) (lv' := [(2, .int 0), (0, .ref 55), (1, .int a0)]) (st' := []) (h2 := (83, J4, R0 p)) (by rfl) ?_
    refine TT_sub (lv2 := [(0, .ref 55), (1, .int a0), (2, .int 0)]) rfl rfl ⟨rfl, rfl, rfl, trivial⟩ ?_
    exact t_X9_runOn_13 n a0 0 _ _ hg
def g_X9_isLater (n : Nat) (a0 : Int32) (I : IH) : Option (Int32 × IH) :=
  match g_X9_in n (Int32.toInt64 a0) 0 20000 I with
  | none => none
  | some (r4, J3) =>
    if r4 = 0 ∨ r4 = 1 then some (r4, J3) else none
set_option maxRecDepth 20000 in
theorem t_X9_isLater {p : Nat} {n : Nat} {a0 : Int32} {I : IH} {w : Int32 × IH} (hg : g_X9_isLater n a0 I = some w) : TT none mt_X9_isLater 0 (lv_args 0 [.int a0]) [] (83, I, R0 p) (some (.int w.1)) (83, w.2, R0 p) := by
  unfold g_X9_isLater at hg
  refine TT_go 4 (pc' := 6) (lv' := [(0, .int a0)]) (st' := [.long 20000, .long 0, .long (Int32.toInt64 a0)]) (h2 := (83, I, R0 p)) (by rfl) ?_
  cases hq1 : g_X9_in n (Int32.toInt64 a0) 0 20000 I with
  | none => rw [hq1] at hg; cases hg
  | some w2 =>
    obtain ⟨r4, J3⟩ := w2
    rw [hq1] at hg
    dsimp only at hg
    refine TT_call (me' := mt_X9_in) (as := [.long (Int32.toInt64 a0), .long 0, .long 20000]) (rest := []) (r1 := some (.int r4)) (h1 := (83, J3, R0 p)) rfl rfl (by rfl) (t_X9_in hq1) ?_
    refine TT_go 0 (pc' := 9) (lv' := [(0, .int a0)]) (st' := [.int r4]) (h2 := (83, J3, R0 p)) (by rfl) ?_
    by_cases hc5 : r4 = 0 ∨ r4 = 1
    rotate_left
    · rw [if_neg hc5] at hg; cases hg
    rw [if_pos hc5] at hg
    have hg := Option.some.inj hg
    subst hg
    exact TT_ret rfl (if_pos hc5)
def g_X9_later (n : Nat) (a0 : Int32) (a1 : Int32) (I : IH) : Option (Int32 × IH) :=
  match g_X9_isLater n a0 I with
  | none => none
  | some (r4, J3) =>
    if r4 = 0 then
      some ((-1), J3)
    else
      match g_X9_isHand n a1 J3 with
      | none => none
      | some (r9, J8) =>
        if r9 = 0 then
          some ((-1), J8)
        else
          match g_X9_runOn n a0 J8 with
          | none => none
          | some J13 =>
            match g_X9_hasOf n 1 a1 J13 with
            | none => none
            | some (r17, J16) =>
              some (r17, J16)
set_option maxRecDepth 20000 in
theorem t_X9_later {p : Nat} {n : Nat} {a0 : Int32} {a1 : Int32} {I : IH} {w : Int32 × IH} (hg : g_X9_later n a0 a1 I = some w) : TT none mt_X9_later 0 (lv_args 0 [.ref 55, .int a0, .int a1]) [] (83, I, R0 p) (some (.int w.1)) (83, w.2, R0 p) := by
  unfold g_X9_later at hg
  refine TT_go 1 (pc' := 1) (lv' := [(0, .ref 55), (1, .int a0), (2, .int a1)]) (st' := [.int a0]) (h2 := (83, I, R0 p)) (by rfl) ?_
  cases hq1 : g_X9_isLater n a0 I with
  | none => rw [hq1] at hg; cases hg
  | some w2 =>
    obtain ⟨r4, J3⟩ := w2
    rw [hq1] at hg
    dsimp only at hg
    refine TT_call (me' := mt_X9_isLater) (as := [.int a0]) (rest := []) (r1 := some (.int r4)) (h1 := (83, J3, R0 p)) rfl rfl (by rfl) (t_X9_isLater hq1) ?_
    refine TT_go 0 (pc' := 4) (lv' := [(0, .ref 55), (1, .int a0), (2, .int a1)]) (st' := [.int r4]) (h2 := (83, J3, R0 p)) (by rfl) ?_
    by_cases hc5 : r4 = 0
    · rw [if_pos hc5] at hg
      refine TT_zeq_t (t := 14) rfl rfl hc5 ?_
      refine TT_go 1 (pc' := 15) (lv' := [(0, .ref 55), (1, .int a0), (2, .int a1)]) (st' := [.int (-1)]) (h2 := (83, J3, R0 p)) (by rfl) ?_
      have hg := Option.some.inj hg
      subst hg
      exact TT_ret rfl rfl
    · rw [if_neg hc5] at hg
      refine TT_zeq_f (t := 14) rfl rfl hc5 ?_
      refine TT_go 1 (pc' := 8) (lv' := [(0, .ref 55), (1, .int a0), (2, .int a1)]) (st' := [.int a1]) (h2 := (83, J3, R0 p)) (by rfl) ?_
      cases hq6 : g_X9_isHand n a1 J3 with
      | none => rw [hq6] at hg; cases hg
      | some w7 =>
        obtain ⟨r9, J8⟩ := w7
        rw [hq6] at hg
        dsimp only at hg
        refine TT_call (me' := mt_X9_isHand) (as := [.int a1]) (rest := []) (r1 := some (.int r9)) (h1 := (83, J8, R0 p)) rfl rfl (by rfl) (t_X9_isHand hq6) ?_
        refine TT_go 0 (pc' := 11) (lv' := [(0, .ref 55), (1, .int a0), (2, .int a1)]) (st' := [.int r9]) (h2 := (83, J8, R0 p)) (by rfl) ?_
        by_cases hc10 : r9 = 0
        · rw [if_pos hc10] at hg
          refine TT_zne_f (t := 16) rfl rfl hc10 ?_
          refine TT_go 1 (pc' := 15) (lv' := [(0, .ref 55), (1, .int a0), (2, .int a1)]) (st' := [.int (-1)]) (h2 := (83, J8, R0 p)) (by rfl) ?_
          have hg := Option.some.inj hg
          subst hg
          exact TT_ret rfl rfl
        · rw [if_neg hc10] at hg
          refine TT_zne_t (t := 16) rfl rfl hc10 ?_
          refine TT_go 2 (pc' := 18) (lv' := [(0, .ref 55), (1, .int a0), (2, .int a1)]) (st' := [.int a0, .ref 55]) (h2 := (83, J8, R0 p)) (by rfl) ?_
          cases hq11 : g_X9_runOn n a0 J8 with
          | none => rw [hq11] at hg; cases hg
          | some w12 =>
            obtain ⟨J13, hJ13⟩ : ∃ J, J = w12 := ⟨_, rfl⟩
            rw [← hJ13] at hq11
            rw [hq11] at hg
            dsimp only at hg
            refine TT_call (me' := mt_X9_runOn) (as := [.ref 55, .int a0]) (rest := []) (r1 := none) (h1 := (83, J13, R0 p)) rfl rfl (by rfl) (t_X9_runOn hq11) ?_
            refine TT_go 3 (pc' := 24) (lv' := [(0, .ref 55), (1, .int a0), (2, .int a1)]) (st' := [.int a1, .int 1, .ref 55]) (h2 := (83, J13, R0 p)) (by rfl) ?_
            cases hq14 : g_X9_hasOf n 1 a1 J13 with
            | none => rw [hq14] at hg; cases hg
            | some w15 =>
              obtain ⟨r17, J16⟩ := w15
              rw [hq14] at hg
              dsimp only at hg
              refine TT_call (me' := mt_X9_hasOf) (as := [.ref 55, .int 1, .int a1]) (rest := []) (r1 := some (.int r17)) (h1 := (83, J16, R0 p)) rfl rfl (by rfl) (t_X9_hasOf hq14) ?_
              refine TT_go 0 (pc' := 27) (lv' := [(0, .ref 55), (1, .int a0), (2, .int a1)]) (st' := [.int r17]) (h2 := (83, J16, R0 p)) (by rfl) ?_
              have hg := Option.some.inj hg
              subst hg
              exact TT_ret rfl rfl
def g_X9_falls (n : Nat) (a0 : Int32) (a1 : Int32) (a2 : Int32) (I : IH) : Option (Int32 × IH) :=
  match g_X9_isLater n a0 I with
  | none => none
  | some (r4, J3) =>
    if r4 = 0 then
      some ((-1), J3)
    else
      match g_X9_isGlass n a1 J3 with
      | none => none
      | some (r9, J8) =>
        if r9 = 0 then
          some ((-1), J8)
        else
          match g_X9_in n (Int32.toInt64 a2) 0 1 J8 with
          | none => none
          | some (r14, J13) =>
            if r14 = 0 then
              some ((-1), J13)
            else
              match g_X9_runOn n a0 J13 with
              | none => none
              | some J18 =>
                if inB ((2 * a1) + a2) 16 = true then
                  bnd (J18 81 (Int32.toNatClampNeg ((2 * a1) + a2))) fun x20 =>
                  some (x20, J18)
                else none
set_option maxRecDepth 20000 in
theorem t_X9_falls {p : Nat} {n : Nat} {a0 : Int32} {a1 : Int32} {a2 : Int32} {I : IH} {w : Int32 × IH} (hg : g_X9_falls n a0 a1 a2 I = some w) : TT none mt_X9_falls 0 (lv_args 0 [.ref 55, .int a0, .int a1, .int a2]) [] (83, I, R0 p) (some (.int w.1)) (83, w.2, R0 p) := by
  unfold g_X9_falls at hg
  refine TT_go 1 (pc' := 1) (lv' := [(0, .ref 55), (1, .int a0), (2, .int a1), (3, .int a2)]) (st' := [.int a0]) (h2 := (83, I, R0 p)) (by rfl) ?_
  cases hq1 : g_X9_isLater n a0 I with
  | none => rw [hq1] at hg; cases hg
  | some w2 =>
    obtain ⟨r4, J3⟩ := w2
    rw [hq1] at hg
    dsimp only at hg
    refine TT_call (me' := mt_X9_isLater) (as := [.int a0]) (rest := []) (r1 := some (.int r4)) (h1 := (83, J3, R0 p)) rfl rfl (by rfl) (t_X9_isLater hq1) ?_
    refine TT_go 0 (pc' := 4) (lv' := [(0, .ref 55), (1, .int a0), (2, .int a1), (3, .int a2)]) (st' := [.int r4]) (h2 := (83, J3, R0 p)) (by rfl) ?_
    by_cases hc5 : r4 = 0
    · rw [if_pos hc5] at hg
      refine TT_zeq_t (t := 25) rfl rfl hc5 ?_
      refine TT_go 1 (pc' := 26) (lv' := [(0, .ref 55), (1, .int a0), (2, .int a1), (3, .int a2)]) (st' := [.int (-1)]) (h2 := (83, J3, R0 p)) (by rfl) ?_
      have hg := Option.some.inj hg
      subst hg
      exact TT_ret rfl rfl
    · rw [if_neg hc5] at hg
      refine TT_zeq_f (t := 25) rfl rfl hc5 ?_
      refine TT_go 2 (pc' := 9) (lv' := [(0, .ref 55), (1, .int a0), (2, .int a1), (3, .int a2)]) (st' := [.int a1, .ref 55]) (h2 := (83, J3, R0 p)) (by rfl) ?_
      cases hq6 : g_X9_isGlass n a1 J3 with
      | none => rw [hq6] at hg; cases hg
      | some w7 =>
        obtain ⟨r9, J8⟩ := w7
        rw [hq6] at hg
        dsimp only at hg
        refine TT_call (me' := mt_X9_isGlass) (as := [.ref 55, .int a1]) (rest := []) (r1 := some (.int r9)) (h1 := (83, J8, R0 p)) rfl rfl (by rfl) (t_X9_isGlass hq6) ?_
        refine TT_go 0 (pc' := 12) (lv' := [(0, .ref 55), (1, .int a0), (2, .int a1), (3, .int a2)]) (st' := [.int r9]) (h2 := (83, J8, R0 p)) (by rfl) ?_
        by_cases hc10 : r9 = 0
        · rw [if_pos hc10] at hg
          refine TT_zeq_t (t := 25) rfl rfl hc10 ?_
          refine TT_go 1 (pc' := 26) (lv' := [(0, .ref 55), (1, .int a0), (2, .int a1), (3, .int a2)]) (st' := [.int (-1)]) (h2 := (83, J8, R0 p)) (by rfl) ?_
          have hg := Option.some.inj hg
          subst hg
          exact TT_ret rfl rfl
        · rw [if_neg hc10] at hg
          refine TT_zeq_f (t := 25) rfl rfl hc10 ?_
          refine TT_go 4 (pc' := 19) (lv' := [(0, .ref 55), (1, .int a0), (2, .int a1), (3, .int a2)]) (st' := [.long 1, .long 0, .long (Int32.toInt64 a2)]) (h2 := (83, J8, R0 p)) (by rfl) ?_
          cases hq11 : g_X9_in n (Int32.toInt64 a2) 0 1 J8 with
          | none => rw [hq11] at hg; cases hg
          | some w12 =>
            obtain ⟨r14, J13⟩ := w12
            rw [hq11] at hg
            dsimp only at hg
            refine TT_call (me' := mt_X9_in) (as := [.long (Int32.toInt64 a2), .long 0, .long 1]) (rest := []) (r1 := some (.int r14)) (h1 := (83, J13, R0 p)) rfl rfl (by rfl) (t_X9_in hq11) ?_
            refine TT_go 0 (pc' := 22) (lv' := [(0, .ref 55), (1, .int a0), (2, .int a1), (3, .int a2)]) (st' := [.int r14]) (h2 := (83, J13, R0 p)) (by rfl) ?_
            by_cases hc15 : r14 = 0
            · rw [if_pos hc15] at hg
              refine TT_zne_f (t := 27) rfl rfl hc15 ?_
              refine TT_go 1 (pc' := 26) (lv' := [(0, .ref 55), (1, .int a0), (2, .int a1), (3, .int a2)]) (st' := [.int (-1)]) (h2 := (83, J13, R0 p)) (by rfl) ?_
              have hg := Option.some.inj hg
              subst hg
              exact TT_ret rfl rfl
            · rw [if_neg hc15] at hg
              refine TT_zne_t (t := 27) rfl rfl hc15 ?_
              refine TT_go 2 (pc' := 29) (lv' := [(0, .ref 55), (1, .int a0), (2, .int a1), (3, .int a2)]) (st' := [.int a0, .ref 55]) (h2 := (83, J13, R0 p)) (by rfl) ?_
              cases hq16 : g_X9_runOn n a0 J13 with
              | none => rw [hq16] at hg; cases hg
              | some w17 =>
                obtain ⟨J18, hJ18⟩ : ∃ J, J = w17 := ⟨_, rfl⟩
                rw [← hJ18] at hq16
                rw [hq16] at hg
                dsimp only at hg
                refine TT_call (me' := mt_X9_runOn) (as := [.ref 55, .int a0]) (rest := []) (r1 := none) (h1 := (83, J18, R0 p)) rfl rfl (by rfl) (t_X9_runOn hq16) ?_
                refine TT_go 7 (pc' := 41) (lv' := [(0, .ref 55), (1, .int a0), (2, .int a1), (3, .int a2)]) (st' := [.int ((2 * a1) + a2), .ref 81]) (h2 := (83, J18, R0 p)) (by rfl) ?_
                by_cases hb19 : inB ((2 * a1) + a2) 16 = true
                rotate_left
                · rw [if_neg hb19] at hg; cases hg
                rw [if_pos hb19] at hg
                refine TT_iald (n := 16) rfl (by rfl) hb19 ?_
                obtain ⟨x20, hx20⟩ : ∃ x : Int32, x = (J18 81 (Int32.toNatClampNeg ((2 * a1) + a2))) := ⟨_, rfl⟩
                replace hg := bnd_use hx20 hg
                refine TT_go 0 (pc' := 42) (lv' := [(0, .ref 55), (1, .int a0), (2, .int a1), (3, .int a2)]) (st' := [.int x20]) (h2 := (83, J18, R0 p)) (by subst hx20; rfl) ?_
                have hg := Option.some.inj hg
                subst hg
                exact TT_ret rfl rfl
def g_X9_empty (n : Nat) (a0 : Int32) (I : IH) : Option (Int32 × IH) :=
  match g_X9_isLater n a0 I with
  | none => none
  | some (r4, J3) =>
    if r4 = 0 then
      some ((-1), J3)
    else
      match g_X9_runOn n a0 J3 with
      | none => none
      | some J8 =>
        some ((J8 55 32), J8)
set_option maxRecDepth 20000 in
theorem t_X9_empty {p : Nat} {n : Nat} {a0 : Int32} {I : IH} {w : Int32 × IH} (hg : g_X9_empty n a0 I = some w) : TT none mt_X9_empty 0 (lv_args 0 [.ref 55, .int a0]) [] (83, I, R0 p) (some (.int w.1)) (83, w.2, R0 p) := by
  unfold g_X9_empty at hg
  refine TT_go 1 (pc' := 1) (lv' := [(0, .ref 55), (1, .int a0)]) (st' := [.int a0]) (h2 := (83, I, R0 p)) (by rfl) ?_
  cases hq1 : g_X9_isLater n a0 I with
  | none => rw [hq1] at hg; cases hg
  | some w2 =>
    obtain ⟨r4, J3⟩ := w2
    rw [hq1] at hg
    dsimp only at hg
    refine TT_call (me' := mt_X9_isLater) (as := [.int a0]) (rest := []) (r1 := some (.int r4)) (h1 := (83, J3, R0 p)) rfl rfl (by rfl) (t_X9_isLater hq1) ?_
    refine TT_go 0 (pc' := 4) (lv' := [(0, .ref 55), (1, .int a0)]) (st' := [.int r4]) (h2 := (83, J3, R0 p)) (by rfl) ?_
    by_cases hc5 : r4 = 0
    · rw [if_pos hc5] at hg
      refine TT_zne_f (t := 9) rfl rfl hc5 ?_
      refine TT_go 1 (pc' := 8) (lv' := [(0, .ref 55), (1, .int a0)]) (st' := [.int (-1)]) (h2 := (83, J3, R0 p)) (by rfl) ?_
      have hg := Option.some.inj hg
      subst hg
      exact TT_ret rfl rfl
    · rw [if_neg hc5] at hg
      refine TT_zne_t (t := 9) rfl rfl hc5 ?_
      refine TT_go 2 (pc' := 11) (lv' := [(0, .ref 55), (1, .int a0)]) (st' := [.int a0, .ref 55]) (h2 := (83, J3, R0 p)) (by rfl) ?_
      cases hq6 : g_X9_runOn n a0 J3 with
      | none => rw [hq6] at hg; cases hg
      | some w7 =>
        obtain ⟨J8, hJ8⟩ : ∃ J, J = w7 := ⟨_, rfl⟩
        rw [← hJ8] at hq6
        rw [hq6] at hg
        dsimp only at hg
        refine TT_call (me' := mt_X9_runOn) (as := [.ref 55, .int a0]) (rest := []) (r1 := none) (h1 := (83, J8, R0 p)) rfl rfl (by rfl) (t_X9_runOn hq6) ?_
        refine TT_go 2 (pc' := 18) (lv' := [(0, .ref 55), (1, .int a0)]) (st' := [.int (J8 55 32)]) (h2 := (83, J8, R0 p)) (by rfl) ?_
        have hg := Option.some.inj hg
        subst hg
        exact TT_ret rfl rfl
def g_X9_isLate (n : Nat) (a0 : Int32) (a1 : Int32) (a2 : Int32) (I : IH) : Option (Int32 × IH) :=
  bnd (I 68 0) fun x1 =>
  match g_X9_in n (Int32.toInt64 a0) 0 (Int32.toInt64 (x1 - 1)) I with
  | none => none
  | some (r5, J4) =>
    if r5 = 0 then
      some (0, J4)
    else
      match g_X9_in n (Int32.toInt64 a1) 0 99 J4 with
      | none => none
      | some (r10, J9) =>
        if r10 = 0 then
          some (0, J9)
        else
          match g_X9_isLater n a2 J9 with
          | none => none
          | some (r15, J14) =>
            if r15 = 0 then
              some (0, J14)
            else
              some (1, J14)
set_option maxRecDepth 20000 in
theorem t_X9_isLate {p : Nat} {n : Nat} {a0 : Int32} {a1 : Int32} {a2 : Int32} {I : IH} {w : Int32 × IH} (hg : g_X9_isLate n a0 a1 a2 I = some w) : TT none mt_X9_isLate 0 (lv_args 0 [.ref 55, .int a0, .int a1, .int a2]) [] (83, I, R0 p) (some (.int w.1)) (83, w.2, R0 p) := by
  unfold g_X9_isLate at hg
  obtain ⟨x1, hx1⟩ : ∃ x : Int32, x = (I 68 0) := ⟨_, rfl⟩
  replace hg := bnd_use hx1 hg
  refine TT_go 7 (pc' := 9) (lv' := [(0, .ref 55), (1, .int a0), (2, .int a1), (3, .int a2)]) (st' := [.int x1, .long 0, .long (Int32.toInt64 a0)]) (h2 := (83, I, R0 p)) (by subst hx1; rfl) ?_
  refine TT_go 3 (pc' := 12) (lv' := [(0, .ref 55), (1, .int a0), (2, .int a1), (3, .int a2)]) (st' := [.long (Int32.toInt64 (x1 - 1)), .long 0, .long (Int32.toInt64 a0)]) (h2 := (83, I, R0 p)) (by rfl) ?_
  cases hq2 : g_X9_in n (Int32.toInt64 a0) 0 (Int32.toInt64 (x1 - 1)) I with
  | none => rw [hq2] at hg; cases hg
  | some w3 =>
    obtain ⟨r5, J4⟩ := w3
    rw [hq2] at hg
    dsimp only at hg
    refine TT_call (me' := mt_X9_in) (as := [.long (Int32.toInt64 a0), .long 0, .long (Int32.toInt64 (x1 - 1))]) (rest := []) (r1 := some (.int r5)) (h1 := (83, J4, R0 p)) rfl rfl (by rfl) (t_X9_in hq2) ?_
    refine TT_go 0 (pc' := 15) (lv' := [(0, .ref 55), (1, .int a0), (2, .int a1), (3, .int a2)]) (st' := [.int r5]) (h2 := (83, J4, R0 p)) (by rfl) ?_
    by_cases hc6 : r5 = 0
    · rw [if_pos hc6] at hg
      refine TT_zeq_t (t := 41) rfl rfl hc6 ?_
      refine TT_go 1 (pc' := 42) (lv' := [(0, .ref 55), (1, .int a0), (2, .int a1), (3, .int a2)]) (st' := [.int 0]) (h2 := (83, J4, R0 p)) (by rfl) ?_
      have hg := Option.some.inj hg
      subst hg
      exact TT_ret rfl rfl
    · rw [if_neg hc6] at hg
      refine TT_zeq_f (t := 41) rfl rfl hc6 ?_
      refine TT_go 4 (pc' := 24) (lv' := [(0, .ref 55), (1, .int a0), (2, .int a1), (3, .int a2)]) (st' := [.long 99, .long 0, .long (Int32.toInt64 a1)]) (h2 := (83, J4, R0 p)) (by rfl) ?_
      cases hq7 : g_X9_in n (Int32.toInt64 a1) 0 99 J4 with
      | none => rw [hq7] at hg; cases hg
      | some w8 =>
        obtain ⟨r10, J9⟩ := w8
        rw [hq7] at hg
        dsimp only at hg
        refine TT_call (me' := mt_X9_in) (as := [.long (Int32.toInt64 a1), .long 0, .long 99]) (rest := []) (r1 := some (.int r10)) (h1 := (83, J9, R0 p)) rfl rfl (by rfl) (t_X9_in hq7) ?_
        refine TT_go 0 (pc' := 27) (lv' := [(0, .ref 55), (1, .int a0), (2, .int a1), (3, .int a2)]) (st' := [.int r10]) (h2 := (83, J9, R0 p)) (by rfl) ?_
        by_cases hc11 : r10 = 0
        · rw [if_pos hc11] at hg
          refine TT_zeq_t (t := 41) rfl rfl hc11 ?_
          refine TT_go 1 (pc' := 42) (lv' := [(0, .ref 55), (1, .int a0), (2, .int a1), (3, .int a2)]) (st' := [.int 0]) (h2 := (83, J9, R0 p)) (by rfl) ?_
          have hg := Option.some.inj hg
          subst hg
          exact TT_ret rfl rfl
        · rw [if_neg hc11] at hg
          refine TT_zeq_f (t := 41) rfl rfl hc11 ?_
          refine TT_go 1 (pc' := 31) (lv' := [(0, .ref 55), (1, .int a0), (2, .int a1), (3, .int a2)]) (st' := [.int a2]) (h2 := (83, J9, R0 p)) (by rfl) ?_
          cases hq12 : g_X9_isLater n a2 J9 with
          | none => rw [hq12] at hg; cases hg
          | some w13 =>
            obtain ⟨r15, J14⟩ := w13
            rw [hq12] at hg
            dsimp only at hg
            refine TT_call (me' := mt_X9_isLater) (as := [.int a2]) (rest := []) (r1 := some (.int r15)) (h1 := (83, J14, R0 p)) rfl rfl (by rfl) (t_X9_isLater hq12) ?_
            refine TT_go 0 (pc' := 34) (lv' := [(0, .ref 55), (1, .int a0), (2, .int a1), (3, .int a2)]) (st' := [.int r15]) (h2 := (83, J14, R0 p)) (by rfl) ?_
            by_cases hc16 : r15 = 0
            · rw [if_pos hc16] at hg
              refine TT_zeq_t (t := 41) rfl rfl hc16 ?_
              refine TT_go 1 (pc' := 42) (lv' := [(0, .ref 55), (1, .int a0), (2, .int a1), (3, .int a2)]) (st' := [.int 0]) (h2 := (83, J14, R0 p)) (by rfl) ?_
              have hg := Option.some.inj hg
              subst hg
              exact TT_ret rfl rfl
            · rw [if_neg hc16] at hg
              refine TT_zeq_f (t := 41) rfl rfl hc16 ?_
              refine TT_go 2 (pc' := 42) (lv' := [(0, .ref 55), (1, .int a0), (2, .int a1), (3, .int a2)]) (st' := [.int 1]) (h2 := (83, J14, R0 p)) (by rfl) ?_
              have hg := Option.some.inj hg
              subst hg
              exact TT_ret rfl rfl
def g_X9_layMore_60 : Nat → Int32 → IH → Option (IH)
  | 0, _, _ => none
  | n + 1, v4, I =>
    if 6 ≤ v4 then
      some I
    else
      if inB v4 6 = true then
        bnd (I 82 (Int32.toNatClampNeg v4)) fun x13 =>
        match g_X9_hasOf n 1 v4 I with
        | none => none
        | some (r17, J16) =>
          if inB v4 6 = true then
            bnd (up2 J16 82 (Int32.toNatClampNeg v4) (x13 + r17)) fun J19 =>
            bnd (v4 + 1) fun x20 =>
            g_X9_layMore_60 n x20 J19
          else none
      else none
set_option maxRecDepth 20000 in
theorem t_X9_layMore_60 {p : Nat} : ∀ (n : Nat) (v4 : Int32) (I : IH) (w : IH), g_X9_layMore_60 n v4 I = some w → TT none mt_X9_layMore 60 [(0, .ref 55), (4, .int v4)] [] (83, I, R0 p) none (83, w, R0 p) := by
  intro n
  induction n with
  | zero => intro v4 I w hg; cases hg
  | succ n ih =>
    intro v4 I w hg
    unfold g_X9_layMore_60 at hg
    refine TT_go 2 (pc' := 64) (lv' := [(0, .ref 55), (4, .int v4)]) (st' := [.int 6, .int v4]) (h2 := (83, I, R0 p)) (by rfl) ?_
    by_cases hc11 : 6 ≤ v4
    · rw [if_pos hc11] at hg
      refine TT_ige_t (t := 90) rfl rfl hc11 ?_
      refine TT_go 0 (pc' := 90) (lv' := [(0, .ref 55), (4, .int v4)]) (st' := []) (h2 := (83, I, R0 p)) (by rfl) ?_
      have hg := Option.some.inj hg
      subst hg
      exact TT_ret rfl rfl
    · rw [if_neg hc11] at hg
      refine TT_ige_f (t := 90) rfl rfl hc11 ?_
      refine TT_go 4 (pc' := 74) (lv' := [(0, .ref 55), (4, .int v4)]) (st' := [.int v4, .ref 82, .int v4, .ref 82]) (h2 := (83, I, R0 p)) (by rfl) ?_
      by_cases hb12 : inB v4 6 = true
      rotate_left
      · rw [if_neg hb12] at hg; cases hg
      rw [if_pos hb12] at hg
      refine TT_iald (n := 6) rfl (by rfl) hb12 ?_
      obtain ⟨x13, hx13⟩ : ∃ x : Int32, x = (I 82 (Int32.toNatClampNeg v4)) := ⟨_, rfl⟩
      replace hg := bnd_use hx13 hg
      refine TT_go 0 (pc' := 75) (lv' := [(0, .ref 55), (4, .int v4)]) (st' := [.int x13, .int v4, .ref 82]) (h2 := (83, I, R0 p)) (by subst hx13; rfl) ?_
      refine TT_go 3 (pc' := 79) (lv' := [(0, .ref 55), (4, .int v4)]) (st' := [.int v4, .int 1, .ref 55, .int x13, .int v4, .ref 82]) (h2 := (83, I, R0 p)) (by rfl) ?_
      cases hq14 : g_X9_hasOf n 1 v4 I with
      | none => rw [hq14] at hg; cases hg
      | some w15 =>
        obtain ⟨r17, J16⟩ := w15
        rw [hq14] at hg
        dsimp only at hg
        refine TT_call (me' := mt_X9_hasOf) (as := [.ref 55, .int 1, .int v4]) (rest := [.int x13, .int v4, .ref 82]) (r1 := some (.int r17)) (h1 := (83, J16, R0 p)) rfl rfl (by rfl) (t_X9_hasOf hq14) ?_
        refine TT_go 1 (pc' := 83) (lv' := [(0, .ref 55), (4, .int v4)]) (st' := [.int (x13 + r17), .int v4, .ref 82]) (h2 := (83, J16, R0 p)) (by rfl) ?_
        by_cases hb18 : inB v4 6 = true
        rotate_left
        · rw [if_neg hb18] at hg; cases hg
        rw [if_pos hb18] at hg
        refine TT_iast (n := 6) rfl (by rfl) hb18 ?_
        obtain ⟨J19, hJ19⟩ : ∃ x : IH, x = (up2 J16 82 (Int32.toNatClampNeg v4) (x13 + r17)) := ⟨_, rfl⟩
        replace hg := bnd_use hJ19 hg
        refine TT_go 0 (pc' := 84) (lv' := [(0, .ref 55), (4, .int v4)]) (st' := []) (h2 := (83, J19, R0 p)) (by subst hJ19; rfl) ?_
        obtain ⟨x20, hx20⟩ : ∃ x : Int32, x = (v4 + 1) := ⟨_, rfl⟩
        replace hg := bnd_use hx20 hg
        refine TT_go 1 (pc' := 87) (lv' := [(4, .int x20), (0, .ref 55)]) (st' := []) (h2 := (83, J19, R0 p)) (by subst hx20; rfl) ?_
        refine TT_go 1 (pc' := 60) (lv' := [(4, .int x20), (0, .ref 55)]) (st' := []) (h2 := (83, J19, R0 p)) (by rfl) ?_
        refine TT_sub (lv2 := [(0, .ref 55), (4, .int x20)]) rfl rfl ⟨rfl, rfl, trivial⟩ ?_
        exact ih x20 _ _ hg
def g_X9_layMore_8 : Nat → Int32 → Int32 → Int32 → Int32 → IH → Option (IH)
  | 0, _, _, _, _, _ => none
  | n + 1, v1, v2, v3, v4, I =>
    if 6 ≤ v4 then
      bnd (up2 I 55 29 v1) fun J5 =>
      bnd (up2 J5 55 30 v2) fun J6 =>
      match g_X9_runOn n v3 J6 with
      | none => none
      | some J9 =>
        bnd (up2 J9 55 29 (-4)) fun J10 =>
        g_X9_layMore_60 n 0 J10
    else
      match g_X9_hasOf n 1 v4 I with
      | none => none
      | some (r24, J23) =>
        if inB v4 6 = true then
          bnd (up2 J23 82 (Int32.toNatClampNeg v4) (-r24)) fun J26 =>
          bnd (v4 + 1) fun x27 =>
          g_X9_layMore_8 n v1 v2 v3 x27 J26
        else none
set_option maxRecDepth 20000 in
theorem t_X9_layMore_8 {p : Nat} : ∀ (n : Nat) (v1 : Int32) (v2 : Int32) (v3 : Int32) (v4 : Int32) (I : IH) (w : IH), g_X9_layMore_8 n v1 v2 v3 v4 I = some w → TT none mt_X9_layMore 8 [(0, .ref 55), (1, .int v1), (2, .int v2), (3, .int v3), (4, .int v4)] [] (83, I, R0 p) none (83, w, R0 p) := by
  intro n
  induction n with
  | zero => intro v1 v2 v3 v4 I w hg; cases hg
  | succ n ih =>
    intro v1 v2 v3 v4 I w hg
    unfold g_X9_layMore_8 at hg
    refine TT_go 2 (pc' := 12) (lv' := [(0, .ref 55), (1, .int v1), (2, .int v2), (3, .int v3), (4, .int v4)]) (st' := [.int 6, .int v4]) (h2 := (83, I, R0 p)) (by rfl) ?_
    by_cases hc4 : 6 ≤ v4
    · rw [if_pos hc4] at hg
      refine TT_ige_t (t := 36) rfl rfl hc4 ?_
      obtain ⟨J5, hJ5⟩ : ∃ x : IH, x = (up2 I 55 29 v1) := ⟨_, rfl⟩
      replace hg := bnd_use hJ5 hg
      refine TT_go 3 (pc' := 41) (lv' := [(0, .ref 55), (1, .int v1), (2, .int v2), (3, .int v3), (4, .int v4)]) (st' := []) (h2 := (83, J5, R0 p)) (by subst hJ5; rfl) ?_
      obtain ⟨J6, hJ6⟩ : ∃ x : IH, x = (up2 J5 55 30 v2) := ⟨_, rfl⟩
      replace hg := bnd_use hJ6 hg
      refine TT_go 3 (pc' := 46) (lv' := [(0, .ref 55), (1, .int v1), (2, .int v2), (3, .int v3), (4, .int v4)]) (st' := []) (h2 := (83, J6, R0 p)) (by subst hJ6; rfl) ?_
      refine TT_go 2 (pc' := 48) (lv' := [(0, .ref 55), (1, .int v1), (2, .int v2), (3, .int v3), (4, .int v4)]) (st' := [.int v3, .ref 55]) (h2 := (83, J6, R0 p)) (by rfl) ?_
      cases hq7 : g_X9_runOn n v3 J6 with
      | none => rw [hq7] at hg; cases hg
      | some w8 =>
        obtain ⟨J9, hJ9⟩ : ∃ J, J = w8 := ⟨_, rfl⟩
        rw [← hJ9] at hq7
        rw [hq7] at hg
        dsimp only at hg
        refine TT_call (me' := mt_X9_runOn) (as := [.ref 55, .int v3]) (rest := []) (r1 := none) (h1 := (83, J9, R0 p)) rfl rfl (by rfl) (t_X9_runOn hq7) ?_
        obtain ⟨J10, hJ10⟩ : ∃ x : IH, x = (up2 J9 55 29 (-4)) := ⟨_, rfl⟩
        replace hg := bnd_use hJ10 hg
        refine TT_go 3 (pc' := 57) (lv' := [(0, .ref 55), (1, .int v1), (2, .int v2), (3, .int v3), (4, .int v4)]) (st' := []) (h2 := (83, J10, R0 p)) (by subst hJ10; rfl) ?_
        refine TT_go 2 (pc' := 60) (lv' := [(4, .int 0), (0, .ref 55), (1, .int v1), (2, .int v2), (3, .int v3)]) (st' := []) (h2 := (83, J10, R0 p)) (by rfl) ?_
        refine TT_sub (lv2 := [(0, .ref 55), (4, .int 0)]) rfl rfl ⟨rfl, rfl, trivial⟩ ?_
        exact t_X9_layMore_60 n 0 _ _ hg
    · rw [if_neg hc4] at hg
      refine TT_ige_f (t := 36) rfl rfl hc4 ?_
      refine TT_go 6 (pc' := 25) (lv' := [(0, .ref 55), (1, .int v1), (2, .int v2), (3, .int v3), (4, .int v4)]) (st' := [.int v4, .int 1, .ref 55, .int v4, .ref 82]) (h2 := (83, I, R0 p)) (by rfl) ?_
      cases hq21 : g_X9_hasOf n 1 v4 I with
      | none => rw [hq21] at hg; cases hg
      | some w22 =>
        obtain ⟨r24, J23⟩ := w22
        rw [hq21] at hg
        dsimp only at hg
        refine TT_call (me' := mt_X9_hasOf) (as := [.ref 55, .int 1, .int v4]) (rest := [.int v4, .ref 82]) (r1 := some (.int r24)) (h1 := (83, J23, R0 p)) rfl rfl (by rfl) (t_X9_hasOf hq21) ?_
        refine TT_go 1 (pc' := 29) (lv' := [(0, .ref 55), (1, .int v1), (2, .int v2), (3, .int v3), (4, .int v4)]) (st' := [.int (-r24), .int v4, .ref 82]) (h2 := (83, J23, R0 p)) (by rfl) ?_
        by_cases hb25 : inB v4 6 = true
        rotate_left
        · rw [if_neg hb25] at hg; cases hg
        rw [if_pos hb25] at hg
        refine TT_iast (n := 6) rfl (by rfl) hb25 ?_
        obtain ⟨J26, hJ26⟩ : ∃ x : IH, x = (up2 J23 82 (Int32.toNatClampNeg v4) (-r24)) := ⟨_, rfl⟩
        replace hg := bnd_use hJ26 hg
        refine TT_go 0 (pc' := 30) (lv' := [(0, .ref 55), (1, .int v1), (2, .int v2), (3, .int v3), (4, .int v4)]) (st' := []) (h2 := (83, J26, R0 p)) (by subst hJ26; rfl) ?_
        obtain ⟨x27, hx27⟩ : ∃ x : Int32, x = (v4 + 1) := ⟨_, rfl⟩
        replace hg := bnd_use hx27 hg
        refine TT_go 1 (pc' := 33) (lv' := [(4, .int x27), (0, .ref 55), (1, .int v1), (2, .int v2), (3, .int v3)]) (st' := []) (h2 := (83, J26, R0 p)) (by subst hx27; rfl) ?_
        refine TT_go 1 (pc' := 8) (lv' := [(4, .int x27), (0, .ref 55), (1, .int v1), (2, .int v2), (3, .int v3)]) (st' := []) (h2 := (83, J26, R0 p)) (by rfl) ?_
        refine TT_sub (lv2 := [(0, .ref 55), (1, .int v1), (2, .int v2), (3, .int v3), (4, .int x27)]) rfl rfl ⟨rfl, rfl, rfl, rfl, rfl, trivial⟩ ?_
        exact ih v1 v2 v3 x27 _ _ hg
def g_X9_layMore (n : Nat) (a0 : Int32) (a1 : Int32) (a2 : Int32) (I : IH) : Option (IH) :=
  match g_X9_runOn n a2 I with
  | none => none
  | some J3 =>
    g_X9_layMore_8 n a0 a1 a2 0 J3
set_option maxRecDepth 20000 in
theorem t_X9_layMore {p : Nat} {n : Nat} {a0 : Int32} {a1 : Int32} {a2 : Int32} {I : IH} {w : IH} (hg : g_X9_layMore n a0 a1 a2 I = some w) : TT none mt_X9_layMore 0 (lv_args 0 [.ref 55, .int a0, .int a1, .int a2]) [] (83, I, R0 p) none (83, w, R0 p) := by
  unfold g_X9_layMore at hg
  refine TT_go 2 (pc' := 2) (lv' := [(0, .ref 55), (1, .int a0), (2, .int a1), (3, .int a2)]) (st' := [.int a2, .ref 55]) (h2 := (83, I, R0 p)) (by rfl) ?_
  cases hq1 : g_X9_runOn n a2 I with
  | none => rw [hq1] at hg; cases hg
  | some w2 =>
    obtain ⟨J3, hJ3⟩ : ∃ J, J = w2 := ⟨_, rfl⟩
    rw [← hJ3] at hq1
    rw [hq1] at hg
    dsimp only at hg
    refine TT_call (me' := mt_X9_runOn) (as := [.ref 55, .int a2]) (rest := []) (r1 := none) (h1 := (83, J3, R0 p)) rfl rfl (by rfl) (t_X9_runOn hq1) ?_
    refine TT_go 2 (pc' := 8) (lv' := [(4, .int 0), (0, .ref 55), (1, .int a0), (2, .int a1), (3, .int a2)]) (st' := []) (h2 := (83, J3, R0 p)) (by rfl) ?_
    refine TT_sub (lv2 := [(0, .ref 55), (1, .int a0), (2, .int a1), (3, .int a2), (4, .int 0)]) rfl rfl ⟨rfl, rfl, rfl, rfl, rfl, trivial⟩ ?_
    exact t_X9_layMore_8 n a0 a1 a2 0 _ _ hg
def g_X9_late (n : Nat) (a0 : Int32) (a1 : Int32) (a2 : Int32) (a3 : Int32) (I : IH) : Option (Int32 × IH) :=
  match g_X9_isLate n a0 a1 a2 I with
  | none => none
  | some (r4, J3) =>
    if r4 = 0 then
      some ((-1), J3)
    else
      match g_X9_isHand n a3 J3 with
      | none => none
      | some (r9, J8) =>
        if r9 = 0 then
          some ((-1), J8)
        else
          match g_X9_layMore n a0 a1 a2 J8 with
          | none => none
          | some J13 =>
            if inB a3 6 = true then
              bnd (J13 82 (Int32.toNatClampNeg a3)) fun x15 =>
              some ((x15 + 100000), J13)
            else none
set_option maxRecDepth 20000 in
theorem t_X9_late {p : Nat} {n : Nat} {a0 : Int32} {a1 : Int32} {a2 : Int32} {a3 : Int32} {I : IH} {w : Int32 × IH} (hg : g_X9_late n a0 a1 a2 a3 I = some w) : TT none mt_X9_late 0 (lv_args 0 [.ref 55, .int a0, .int a1, .int a2, .int a3]) [] (83, I, R0 p) (some (.int w.1)) (83, w.2, R0 p) := by
  unfold g_X9_late at hg
  refine TT_go 4 (pc' := 4) (lv' := [(0, .ref 55), (1, .int a0), (2, .int a1), (3, .int a2), (4, .int a3)]) (st' := [.int a2, .int a1, .int a0, .ref 55]) (h2 := (83, I, R0 p)) (by rfl) ?_
  cases hq1 : g_X9_isLate n a0 a1 a2 I with
  | none => rw [hq1] at hg; cases hg
  | some w2 =>
    obtain ⟨r4, J3⟩ := w2
    rw [hq1] at hg
    dsimp only at hg
    refine TT_call (me' := mt_X9_isLate) (as := [.ref 55, .int a0, .int a1, .int a2]) (rest := []) (r1 := some (.int r4)) (h1 := (83, J3, R0 p)) rfl rfl (by rfl) (t_X9_isLate hq1) ?_
    refine TT_go 0 (pc' := 7) (lv' := [(0, .ref 55), (1, .int a0), (2, .int a1), (3, .int a2), (4, .int a3)]) (st' := [.int r4]) (h2 := (83, J3, R0 p)) (by rfl) ?_
    by_cases hc5 : r4 = 0
    · rw [if_pos hc5] at hg
      refine TT_zeq_t (t := 18) rfl rfl hc5 ?_
      refine TT_go 1 (pc' := 19) (lv' := [(0, .ref 55), (1, .int a0), (2, .int a1), (3, .int a2), (4, .int a3)]) (st' := [.int (-1)]) (h2 := (83, J3, R0 p)) (by rfl) ?_
      have hg := Option.some.inj hg
      subst hg
      exact TT_ret rfl rfl
    · rw [if_neg hc5] at hg
      refine TT_zeq_f (t := 18) rfl rfl hc5 ?_
      refine TT_go 1 (pc' := 12) (lv' := [(0, .ref 55), (1, .int a0), (2, .int a1), (3, .int a2), (4, .int a3)]) (st' := [.int a3]) (h2 := (83, J3, R0 p)) (by rfl) ?_
      cases hq6 : g_X9_isHand n a3 J3 with
      | none => rw [hq6] at hg; cases hg
      | some w7 =>
        obtain ⟨r9, J8⟩ := w7
        rw [hq6] at hg
        dsimp only at hg
        refine TT_call (me' := mt_X9_isHand) (as := [.int a3]) (rest := []) (r1 := some (.int r9)) (h1 := (83, J8, R0 p)) rfl rfl (by rfl) (t_X9_isHand hq6) ?_
        refine TT_go 0 (pc' := 15) (lv' := [(0, .ref 55), (1, .int a0), (2, .int a1), (3, .int a2), (4, .int a3)]) (st' := [.int r9]) (h2 := (83, J8, R0 p)) (by rfl) ?_
        by_cases hc10 : r9 = 0
        · rw [if_pos hc10] at hg
          refine TT_zne_f (t := 20) rfl rfl hc10 ?_
          refine TT_go 1 (pc' := 19) (lv' := [(0, .ref 55), (1, .int a0), (2, .int a1), (3, .int a2), (4, .int a3)]) (st' := [.int (-1)]) (h2 := (83, J8, R0 p)) (by rfl) ?_
          have hg := Option.some.inj hg
          subst hg
          exact TT_ret rfl rfl
        · rw [if_neg hc10] at hg
          refine TT_zne_t (t := 20) rfl rfl hc10 ?_
          refine TT_go 4 (pc' := 24) (lv' := [(0, .ref 55), (1, .int a0), (2, .int a1), (3, .int a2), (4, .int a3)]) (st' := [.int a2, .int a1, .int a0, .ref 55]) (h2 := (83, J8, R0 p)) (by rfl) ?_
          cases hq11 : g_X9_layMore n a0 a1 a2 J8 with
          | none => rw [hq11] at hg; cases hg
          | some w12 =>
            obtain ⟨J13, hJ13⟩ : ∃ J, J = w12 := ⟨_, rfl⟩
            rw [← hJ13] at hq11
            rw [hq11] at hg
            dsimp only at hg
            refine TT_call (me' := mt_X9_layMore) (as := [.ref 55, .int a0, .int a1, .int a2]) (rest := []) (r1 := none) (h1 := (83, J13, R0 p)) rfl rfl (by rfl) (t_X9_layMore hq11) ?_
            refine TT_go 3 (pc' := 33) (lv' := [(0, .ref 55), (1, .int a0), (2, .int a1), (3, .int a2), (4, .int a3)]) (st' := [.int a3, .ref 82]) (h2 := (83, J13, R0 p)) (by rfl) ?_
            by_cases hb14 : inB a3 6 = true
            rotate_left
            · rw [if_neg hb14] at hg; cases hg
            rw [if_pos hb14] at hg
            refine TT_iald (n := 6) rfl (by rfl) hb14 ?_
            obtain ⟨x15, hx15⟩ : ∃ x : Int32, x = (J13 82 (Int32.toNatClampNeg a3)) := ⟨_, rfl⟩
            replace hg := bnd_use hx15 hg
            refine TT_go 0 (pc' := 34) (lv' := [(0, .ref 55), (1, .int a0), (2, .int a1), (3, .int a2), (4, .int a3)]) (st' := [.int x15]) (h2 := (83, J13, R0 p)) (by subst hx15; rfl) ?_
            refine TT_go 2 (pc' := 37) (lv' := [(0, .ref 55), (1, .int a0), (2, .int a1), (3, .int a2), (4, .int a3)]) (st' := [.int (x15 + 100000)]) (h2 := (83, J13, R0 p)) (by rfl) ?_
            have hg := Option.some.inj hg
            subst hg
            exact TT_ret rfl rfl
def g_X9_gains_67 (n : Nat) (k36 : Int32 → Int32 → Int32 → IH → Option (Int32 × IH)) (v4 : Int32) (v6 : Int32) (t0 : Int32) (I : IH) : Option (Int32 × IH) :=
  bnd (v6 + 1) fun x23 =>
  k36 v4 t0 x23 I
set_option maxRecDepth 20000 in
theorem t_X9_gains_67 {p : Nat} {n : Nat} {k36 : Int32 → Int32 → Int32 → IH → Option (Int32 × IH)} (hk36 : ∀ (v4 : Int32) (v5 : Int32) (v6 : Int32) (I : IH) (w : Int32 × IH), k36 v4 v5 v6 I = some w → TT none mt_X9_gains 36 [(0, .ref 55), (4, .int v4), (5, .int v5), (6, .int v6)] [] (83, I, R0 p) (some (.int w.1)) (83, w.2, R0 p)) {v4 : Int32} {v6 : Int32} {t0 : Int32} {I : IH} {w : Int32 × IH} (hg : g_X9_gains_67 n k36 v4 v6 t0 I = some w) : TT none mt_X9_gains 67 [(0, .ref 55), (4, .int v4), (6, .int v6)] [.int t0] (83, I, R0 p) (some (.int w.1)) (83, w.2, R0 p) := by
  unfold g_X9_gains_67 at hg
  obtain ⟨x23, hx23⟩ : ∃ x : Int32, x = (v6 + 1) := ⟨_, rfl⟩
  replace hg := bnd_use hx23 hg
  refine TT_go 2 (pc' := 72) (lv' := [(6, .int x23), (5, .int t0), (0, .ref 55), (4, .int v4)]) (st' := []) (h2 := (83, I, R0 p)) (by subst hx23; rfl) ?_
  refine TT_go 1 (pc' := 36) (lv' := [(6, .int x23), (5, .int t0), (0, .ref 55), (4, .int v4)]) (st' := []) (h2 := (83, I, R0 p)) (by rfl) ?_
  refine TT_sub (lv2 := [(0, .ref 55), (4, .int v4), (5, .int t0), (6, .int x23)]) rfl rfl ⟨rfl, rfl, rfl, rfl, trivial⟩ ?_
  exact hk36 v4 t0 x23 _ _ hg
def g_X9_gains_36 : Nat → Int32 → Int32 → Int32 → IH → Option (Int32 × IH)
  | 0, _, _, _, _ => none
  | n + 1, v4, v5, v6, I =>
    if 6 ≤ v6 then
      if v4 = 0 then
        some (v5, I)
      else
        if inB v5 6 = true then
          bnd (I 82 (Int32.toNatClampNeg v5)) fun x17 =>
          some ((x17 + 100000), I)
        else none
    else
      if inB v6 6 = true then
        bnd (I 82 (Int32.toNatClampNeg v6)) fun x19 =>
        if inB v5 6 = true then
          bnd (I 82 (Int32.toNatClampNeg v5)) fun x21 =>
          if x19 ≤ x21 then
            g_X9_gains_67 n (g_X9_gains_36 n) v4 v6 v5 I
          else
            g_X9_gains_67 n (g_X9_gains_36 n) v4 v6 v6 I
        else none
      else none
set_option maxRecDepth 20000 in
theorem t_X9_gains_36 {p : Nat} : ∀ (n : Nat) (v4 : Int32) (v5 : Int32) (v6 : Int32) (I : IH) (w : Int32 × IH), g_X9_gains_36 n v4 v5 v6 I = some w → TT none mt_X9_gains 36 [(0, .ref 55), (4, .int v4), (5, .int v5), (6, .int v6)] [] (83, I, R0 p) (some (.int w.1)) (83, w.2, R0 p) := by
  intro n
  induction n with
  | zero => intro v4 v5 v6 I w hg; cases hg
  | succ n ih =>
    intro v4 v5 v6 I w hg
    unfold g_X9_gains_36 at hg
    refine TT_go 2 (pc' := 40) (lv' := [(0, .ref 55), (4, .int v4), (5, .int v5), (6, .int v6)]) (st' := [.int 6, .int v6]) (h2 := (83, I, R0 p)) (by rfl) ?_
    by_cases hc14 : 6 ≤ v6
    · rw [if_pos hc14] at hg
      refine TT_ige_t (t := 75) rfl rfl hc14 ?_
      refine TT_go 1 (pc' := 77) (lv' := [(0, .ref 55), (4, .int v4), (5, .int v5), (6, .int v6)]) (st' := [.int v4]) (h2 := (83, I, R0 p)) (by rfl) ?_
      by_cases hc15 : v4 = 0
      · rw [if_pos hc15] at hg
        refine TT_zne_f (t := 85) rfl rfl hc15 ?_
        refine TT_go 2 (pc' := 95) (lv' := [(0, .ref 55), (4, .int v4), (5, .int v5), (6, .int v6)]) (st' := [.int v5]) (h2 := (83, I, R0 p)) (by rfl) ?_
        have hg := Option.some.inj hg
        subst hg
        exact TT_ret rfl rfl
      · rw [if_neg hc15] at hg
        refine TT_zne_t (t := 85) rfl rfl hc15 ?_
        refine TT_go 3 (pc' := 91) (lv' := [(0, .ref 55), (4, .int v4), (5, .int v5), (6, .int v6)]) (st' := [.int v5, .ref 82]) (h2 := (83, I, R0 p)) (by rfl) ?_
        by_cases hb16 : inB v5 6 = true
        rotate_left
        · rw [if_neg hb16] at hg; cases hg
        rw [if_pos hb16] at hg
        refine TT_iald (n := 6) rfl (by rfl) hb16 ?_
        obtain ⟨x17, hx17⟩ : ∃ x : Int32, x = (I 82 (Int32.toNatClampNeg v5)) := ⟨_, rfl⟩
        replace hg := bnd_use hx17 hg
        refine TT_go 0 (pc' := 92) (lv' := [(0, .ref 55), (4, .int v4), (5, .int v5), (6, .int v6)]) (st' := [.int x17]) (h2 := (83, I, R0 p)) (by subst hx17; rfl) ?_
        refine TT_go 2 (pc' := 95) (lv' := [(0, .ref 55), (4, .int v4), (5, .int v5), (6, .int v6)]) (st' := [.int (x17 + 100000)]) (h2 := (83, I, R0 p)) (by rfl) ?_
        have hg := Option.some.inj hg
        subst hg
        exact TT_ret rfl rfl
    · rw [if_neg hc14] at hg
      refine TT_ige_f (t := 75) rfl rfl hc14 ?_
      refine TT_go 3 (pc' := 49) (lv' := [(0, .ref 55), (4, .int v4), (5, .int v5), (6, .int v6)]) (st' := [.int v6, .ref 82]) (h2 := (83, I, R0 p)) (by rfl) ?_
      by_cases hb18 : inB v6 6 = true
      rotate_left
      · rw [if_neg hb18] at hg; cases hg
      rw [if_pos hb18] at hg
      refine TT_iald (n := 6) rfl (by rfl) hb18 ?_
      obtain ⟨x19, hx19⟩ : ∃ x : Int32, x = (I 82 (Int32.toNatClampNeg v6)) := ⟨_, rfl⟩
      replace hg := bnd_use hx19 hg
      refine TT_go 0 (pc' := 50) (lv' := [(0, .ref 55), (4, .int v4), (5, .int v5), (6, .int v6)]) (st' := [.int x19]) (h2 := (83, I, R0 p)) (by subst hx19; rfl) ?_
      refine TT_go 3 (pc' := 56) (lv' := [(0, .ref 55), (4, .int v4), (5, .int v5), (6, .int v6)]) (st' := [.int v5, .ref 82, .int x19]) (h2 := (83, I, R0 p)) (by rfl) ?_
      by_cases hb20 : inB v5 6 = true
      rotate_left
      · rw [if_neg hb20] at hg; cases hg
      rw [if_pos hb20] at hg
      refine TT_iald (n := 6) rfl (by rfl) hb20 ?_
      obtain ⟨x21, hx21⟩ : ∃ x : Int32, x = (I 82 (Int32.toNatClampNeg v5)) := ⟨_, rfl⟩
      replace hg := bnd_use hx21 hg
      refine TT_go 0 (pc' := 57) (lv' := [(0, .ref 55), (4, .int v4), (5, .int v5), (6, .int v6)]) (st' := [.int x21, .int x19]) (h2 := (83, I, R0 p)) (by subst hx21; rfl) ?_
      by_cases hc22 : x19 ≤ x21
      · rw [if_pos hc22] at hg
        refine TT_ile_t (t := 65) rfl rfl hc22 ?_
        refine TT_go 1 (pc' := 67) (lv' := [(0, .ref 55), (4, .int v4), (5, .int v5), (6, .int v6)]) (st' := [.int v5]) (h2 := (83, I, R0 p)) (by rfl) ?_
        refine TT_sub (lv2 := [(0, .ref 55), (4, .int v4), (6, .int v6)]) rfl rfl ⟨rfl, rfl, rfl, trivial⟩ ?_
        exact t_X9_gains_67 ih hg
      · rw [if_neg hc22] at hg
        refine TT_ile_f (t := 65) rfl rfl hc22 ?_
        refine TT_go 2 (pc' := 67) (lv' := [(0, .ref 55), (4, .int v4), (5, .int v5), (6, .int v6)]) (st' := [.int v6]) (h2 := (83, I, R0 p)) (by rfl) ?_
        refine TT_sub (lv2 := [(0, .ref 55), (4, .int v4), (6, .int v6)]) rfl rfl ⟨rfl, rfl, rfl, trivial⟩ ?_
        exact t_X9_gains_67 ih hg
def g_X9_gains (n : Nat) (a0 : Int32) (a1 : Int32) (a2 : Int32) (a3 : Int32) (I : IH) : Option (Int32 × IH) :=
  match g_X9_isLate n a0 a1 a2 I with
  | none => none
  | some (r4, J3) =>
    if r4 = 0 then
      some ((-1), J3)
    else
      match g_X9_in n (Int32.toInt64 a3) 0 1 J3 with
      | none => none
      | some (r9, J8) =>
        if r9 = 0 then
          some ((-1), J8)
        else
          match g_X9_layMore n a0 a1 a2 J8 with
          | none => none
          | some J13 =>
            g_X9_gains_36 n a3 0 1 J13
set_option maxRecDepth 20000 in
theorem t_X9_gains {p : Nat} {n : Nat} {a0 : Int32} {a1 : Int32} {a2 : Int32} {a3 : Int32} {I : IH} {w : Int32 × IH} (hg : g_X9_gains n a0 a1 a2 a3 I = some w) : TT none mt_X9_gains 0 (lv_args 0 [.ref 55, .int a0, .int a1, .int a2, .int a3]) [] (83, I, R0 p) (some (.int w.1)) (83, w.2, R0 p) := by
  unfold g_X9_gains at hg
  refine TT_go 4 (pc' := 4) (lv' := [(0, .ref 55), (1, .int a0), (2, .int a1), (3, .int a2), (4, .int a3)]) (st' := [.int a2, .int a1, .int a0, .ref 55]) (h2 := (83, I, R0 p)) (by rfl) ?_
  cases hq1 : g_X9_isLate n a0 a1 a2 I with
  | none => rw [hq1] at hg; cases hg
  | some w2 =>
    obtain ⟨r4, J3⟩ := w2
    rw [hq1] at hg
    dsimp only at hg
    refine TT_call (me' := mt_X9_isLate) (as := [.ref 55, .int a0, .int a1, .int a2]) (rest := []) (r1 := some (.int r4)) (h1 := (83, J3, R0 p)) rfl rfl (by rfl) (t_X9_isLate hq1) ?_
    refine TT_go 0 (pc' := 7) (lv' := [(0, .ref 55), (1, .int a0), (2, .int a1), (3, .int a2), (4, .int a3)]) (st' := [.int r4]) (h2 := (83, J3, R0 p)) (by rfl) ?_
    by_cases hc5 : r4 = 0
    · rw [if_pos hc5] at hg
      refine TT_zeq_t (t := 21) rfl rfl hc5 ?_
      refine TT_go 1 (pc' := 22) (lv' := [(0, .ref 55), (1, .int a0), (2, .int a1), (3, .int a2), (4, .int a3)]) (st' := [.int (-1)]) (h2 := (83, J3, R0 p)) (by rfl) ?_
      have hg := Option.some.inj hg
      subst hg
      exact TT_ret rfl rfl
    · rw [if_neg hc5] at hg
      refine TT_zeq_f (t := 21) rfl rfl hc5 ?_
      refine TT_go 4 (pc' := 15) (lv' := [(0, .ref 55), (1, .int a0), (2, .int a1), (3, .int a2), (4, .int a3)]) (st' := [.long 1, .long 0, .long (Int32.toInt64 a3)]) (h2 := (83, J3, R0 p)) (by rfl) ?_
      cases hq6 : g_X9_in n (Int32.toInt64 a3) 0 1 J3 with
      | none => rw [hq6] at hg; cases hg
      | some w7 =>
        obtain ⟨r9, J8⟩ := w7
        rw [hq6] at hg
        dsimp only at hg
        refine TT_call (me' := mt_X9_in) (as := [.long (Int32.toInt64 a3), .long 0, .long 1]) (rest := []) (r1 := some (.int r9)) (h1 := (83, J8, R0 p)) rfl rfl (by rfl) (t_X9_in hq6) ?_
        refine TT_go 0 (pc' := 18) (lv' := [(0, .ref 55), (1, .int a0), (2, .int a1), (3, .int a2), (4, .int a3)]) (st' := [.int r9]) (h2 := (83, J8, R0 p)) (by rfl) ?_
        by_cases hc10 : r9 = 0
        · rw [if_pos hc10] at hg
          refine TT_zne_f (t := 23) rfl rfl hc10 ?_
          refine TT_go 1 (pc' := 22) (lv' := [(0, .ref 55), (1, .int a0), (2, .int a1), (3, .int a2), (4, .int a3)]) (st' := [.int (-1)]) (h2 := (83, J8, R0 p)) (by rfl) ?_
          have hg := Option.some.inj hg
          subst hg
          exact TT_ret rfl rfl
        · rw [if_neg hc10] at hg
          refine TT_zne_t (t := 23) rfl rfl hc10 ?_
          refine TT_go 4 (pc' := 27) (lv' := [(0, .ref 55), (1, .int a0), (2, .int a1), (3, .int a2), (4, .int a3)]) (st' := [.int a2, .int a1, .int a0, .ref 55]) (h2 := (83, J8, R0 p)) (by rfl) ?_
          cases hq11 : g_X9_layMore n a0 a1 a2 J8 with
          | none => rw [hq11] at hg; cases hg
          | some w12 =>
            obtain ⟨J13, hJ13⟩ : ∃ J, J = w12 := ⟨_, rfl⟩
            rw [← hJ13] at hq11
            rw [hq11] at hg
            dsimp only at hg
            refine TT_call (me' := mt_X9_layMore) (as := [.ref 55, .int a0, .int a1, .int a2]) (rest := []) (r1 := none) (h1 := (83, J13, R0 p)) rfl rfl (by rfl) (t_X9_layMore hq11) ?_
            refine TT_go 4 (pc' := 36) (lv' := [(6, .int 1), (5, .int 0), (0, .ref 55), (1, .int a0), (2, .int a1), (3, .int a2), (4, .int a3)]) (st' := []) (h2 := (83, J13, R0 p)) (by rfl) ?_
            refine TT_sub (lv2 := [(0, .ref 55), (4, .int a3), (5, .int 0), (6, .int 1)]) rfl rfl ⟨rfl, rfl, rfl, rfl, trivial⟩ ?_
            exact t_X9_gains_36 n a3 0 1 _ _ hg
def g_X9_lowestStanding_2 : Nat → Int32 → IH → Option (Int32 × IH)
  | 0, _, _ => none
  | n + 1, v1, I =>
    match g_X9_upper n 1 v1 I with
    | none => none
    | some (r4, J3) =>
      if inB r4 64 = true then
        bnd (J3 74 (Int32.toNatClampNeg r4)) fun x6 =>
        if x6 = 0 then
          some (v1, J3)
        else
          bnd (v1 + 1) fun x8 =>
          g_X9_lowestStanding_2 n x8 J3
      else none
set_option maxRecDepth 20000 in
theorem t_X9_lowestStanding_2 {p : Nat} : ∀ (n : Nat) (v1 : Int32) (I : IH) (w : Int32 × IH), g_X9_lowestStanding_2 n v1 I = some w → TT none mt_X9_lowestStanding 2 [(0, .ref 55), (1, .int v1)] [] (83, I, R0 p) (some (.int w.1)) (83, w.2, R0 p) := by
  intro n
  induction n with
  | zero => intro v1 I w hg; cases hg
  | succ n ih =>
    intro v1 I w hg
    unfold g_X9_lowestStanding_2 at hg
    refine TT_go 5 (pc' := 9) (lv' := [(0, .ref 55), (1, .int v1)]) (st' := [.int v1, .int 1, .ref 55, .ref 74]) (h2 := (83, I, R0 p)) (by rfl) ?_
    cases hq1 : g_X9_upper n 1 v1 I with
    | none => rw [hq1] at hg; cases hg
    | some w2 =>
      obtain ⟨r4, J3⟩ := w2
      rw [hq1] at hg
      dsimp only at hg
      refine TT_call (me' := mt_X9_upper) (as := [.ref 55, .int 1, .int v1]) (rest := [.ref 74]) (r1 := some (.int r4)) (h1 := (83, J3, R0 p)) rfl rfl (by rfl) (t_X9_upper hq1) ?_
      refine TT_go 0 (pc' := 12) (lv' := [(0, .ref 55), (1, .int v1)]) (st' := [.int r4, .ref 74]) (h2 := (83, J3, R0 p)) (by rfl) ?_
      by_cases hb5 : inB r4 64 = true
      rotate_left
      · rw [if_neg hb5] at hg; cases hg
      rw [if_pos hb5] at hg
      refine TT_iald (n := 64) rfl (by rfl) hb5 ?_
      obtain ⟨x6, hx6⟩ : ∃ x : Int32, x = (J3 74 (Int32.toNatClampNeg r4)) := ⟨_, rfl⟩
      replace hg := bnd_use hx6 hg
      refine TT_go 0 (pc' := 13) (lv' := [(0, .ref 55), (1, .int v1)]) (st' := [.int x6]) (h2 := (83, J3, R0 p)) (by subst hx6; rfl) ?_
      by_cases hc7 : x6 = 0
      · rw [if_pos hc7] at hg
        refine TT_zeq_t (t := 22) rfl rfl hc7 ?_
        refine TT_go 1 (pc' := 23) (lv' := [(0, .ref 55), (1, .int v1)]) (st' := [.int v1]) (h2 := (83, J3, R0 p)) (by rfl) ?_
        have hg := Option.some.inj hg
        subst hg
        exact TT_ret rfl rfl
      · rw [if_neg hc7] at hg
        refine TT_zeq_f (t := 22) rfl rfl hc7 ?_
        obtain ⟨x8, hx8⟩ : ∃ x : Int32, x = (v1 + 1) := ⟨_, rfl⟩
        replace hg := bnd_use hx8 hg
        refine TT_go 1 (pc' := 19) (lv' := [(1, .int x8), (0, .ref 55)]) (st' := []) (h2 := (83, J3, R0 p)) (by subst hx8; rfl) ?_
        refine TT_go 1 (pc' := 2) (lv' := [(1, .int x8), (0, .ref 55)]) (st' := []) (h2 := (83, J3, R0 p)) (by rfl) ?_
        refine TT_sub (lv2 := [(0, .ref 55), (1, .int x8)]) rfl rfl ⟨rfl, rfl, trivial⟩ ?_
        exact ih x8 _ _ hg
def g_X9_lowestStanding (n : Nat) (I : IH) : Option (Int32 × IH) :=
  g_X9_lowestStanding_2 n 0 I
set_option maxRecDepth 20000 in
theorem t_X9_lowestStanding {p : Nat} {n : Nat} {I : IH} {w : Int32 × IH} (hg : g_X9_lowestStanding n I = some w) : TT none mt_X9_lowestStanding 0 (lv_args 0 [.ref 55]) [] (83, I, R0 p) (some (.int w.1)) (83, w.2, R0 p) := by
  unfold g_X9_lowestStanding at hg
  refine TT_go 2 (pc' := 2) (lv' := [(1, .int 0), (0, .ref 55)]) (st' := []) (h2 := (83, I, R0 p)) (by rfl) ?_
  refine TT_sub (lv2 := [(0, .ref 55), (1, .int 0)]) rfl rfl ⟨rfl, rfl, trivial⟩ ?_
  exact t_X9_lowestStanding_2 n 0 _ _ hg
def g_X9_run_85 (n : Nat) (v1 : Int32) (v2 : Int32) (v3 : Int32) (v4 : Int32) (I : IH) : Option (Int32 × IH) :=
  if v1 = 0 then
    some (v2, I)
  else
    if v1 = 1 then
      some (v3, I)
    else
      some (v4, I)
set_option maxRecDepth 20000 in
theorem t_X9_run_85 {p : Nat} {n : Nat} {v1 : Int32} {v2 : Int32} {v3 : Int32} {v4 : Int32} {I : IH} {w : Int32 × IH} (hg : g_X9_run_85 n v1 v2 v3 v4 I = some w) : TT none mt_X9_run 85 [(1, .int v1), (2, .int v2), (3, .int v3), (4, .int v4)] [] (83, I, R0 p) (some (.int w.1)) (83, w.2, R0 p) := by
  unfold g_X9_run_85 at hg
  refine TT_go 1 (pc' := 86) (lv' := [(1, .int v1), (2, .int v2), (3, .int v3), (4, .int v4)]) (st' := [.int v1]) (h2 := (83, I, R0 p)) (by rfl) ?_
  by_cases hc16 : v1 = 0
  · rw [if_pos hc16] at hg
    refine TT_zne_f (t := 93) rfl rfl hc16 ?_
    refine TT_go 2 (pc' := 104) (lv' := [(1, .int v1), (2, .int v2), (3, .int v3), (4, .int v4)]) (st' := [.int v2]) (h2 := (83, I, R0 p)) (by rfl) ?_
    have hg := Option.some.inj hg
    subst hg
    exact TT_ret rfl rfl
  · rw [if_neg hc16] at hg
    refine TT_zne_t (t := 93) rfl rfl hc16 ?_
    refine TT_go 2 (pc' := 95) (lv' := [(1, .int v1), (2, .int v2), (3, .int v3), (4, .int v4)]) (st' := [.int 1, .int v1]) (h2 := (83, I, R0 p)) (by rfl) ?_
    by_cases hc17 : v1 = 1
    · rw [if_pos hc17] at hg
      refine TT_ine_f (t := 102) rfl rfl hc17 ?_
      refine TT_go 2 (pc' := 104) (lv' := [(1, .int v1), (2, .int v2), (3, .int v3), (4, .int v4)]) (st' := [.int v3]) (h2 := (83, I, R0 p)) (by rfl) ?_
      have hg := Option.some.inj hg
      subst hg
      exact TT_ret rfl rfl
    · rw [if_neg hc17] at hg
      refine TT_ine_t (t := 102) rfl rfl hc17 ?_
      refine TT_go 1 (pc' := 104) (lv' := [(1, .int v1), (2, .int v2), (3, .int v3), (4, .int v4)]) (st' := [.int v4]) (h2 := (83, I, R0 p)) (by rfl) ?_
      have hg := Option.some.inj hg
      subst hg
      exact TT_ret rfl rfl
def g_X9_run_62 (n : Nat) (k28 : Int32 → Int32 → Int32 → Int32 → IH → Option (Int32 × IH)) (v1 : Int32) (v2 : Int32) (v3 : Int32) (v4 : Int32) (I : IH) : Option (Int32 × IH) :=
  match g_X9_fall n 1 I with
  | none => none
  | some J25 =>
    bnd (v4 + 1) fun x26 =>
    k28 v1 v2 v3 x26 J25
set_option maxRecDepth 20000 in
theorem t_X9_run_62 {p : Nat} {n : Nat} {k28 : Int32 → Int32 → Int32 → Int32 → IH → Option (Int32 × IH)} (hk28 : ∀ (v1 : Int32) (v2 : Int32) (v3 : Int32) (v4 : Int32) (I : IH) (w : Int32 × IH), k28 v1 v2 v3 v4 I = some w → TT none mt_X9_run 28 [(0, .ref 55), (1, .int v1), (2, .int v2), (3, .int v3), (4, .int v4)] [] (83, I, R0 p) (some (.int w.1)) (83, w.2, R0 p)) {v1 : Int32} {v2 : Int32} {v3 : Int32} {v4 : Int32} {I : IH} {w : Int32 × IH} (hg : g_X9_run_62 n k28 v1 v2 v3 v4 I = some w) : TT none mt_X9_run 62 [(0, .ref 55), (1, .int v1), (2, .int v2), (3, .int v3), (4, .int v4)] [] (83, I, R0 p) (some (.int w.1)) (83, w.2, R0 p) := by
  unfold g_X9_run_62 at hg
  refine TT_go 2 (pc' := 64) (lv' := [(0, .ref 55), (1, .int v1), (2, .int v2), (3, .int v3), (4, .int v4)]) (st' := [.int 1, .ref 55]) (h2 := (83, I, R0 p)) (by rfl) ?_
  cases hq23 : g_X9_fall n 1 I with
  | none => rw [hq23] at hg; cases hg
  | some w24 =>
    obtain ⟨J25, hJ25⟩ : ∃ J, J = w24 := ⟨_, rfl⟩
    rw [← hJ25] at hq23
    rw [hq23] at hg
    dsimp only at hg
    refine TT_call (me' := mt_X9_fall) (as := [.ref 55, .int 1]) (rest := []) (r1 := none) (h1 := (83, J25, R0 p)) rfl rfl (by rfl) (t_X9_fall hq23) ?_
    obtain ⟨x26, hx26⟩ : ∃ x : Int32, x = (v4 + 1) := ⟨_, rfl⟩
    replace hg := bnd_use hx26 hg
    refine TT_go 1 (pc' := 70) (lv' := [(4, .int x26), (0, .ref 55), (1, .int v1), (2, .int v2), (3, .int v3)]) (st' := []) (h2 := (83, J25, R0 p)) (by subst hx26; rfl) ?_
    refine TT_go 1 (pc' := 28) (lv' := [(4, .int x26), (0, .ref 55), (1, .int v1), (2, .int v2), (3, .int v3)]) (st' := []) (h2 := (83, J25, R0 p)) (by rfl) ?_
    refine TT_sub (lv2 := [(0, .ref 55), (1, .int v1), (2, .int v2), (3, .int v3), (4, .int x26)]) rfl rfl ⟨rfl, rfl, rfl, rfl, rfl, trivial⟩ ?_
    exact hk28 v1 v2 v3 x26 _ _ hg
def g_X9_run_28 : Nat → Int32 → Int32 → Int32 → Int32 → IH → Option (Int32 × IH)
  | 0, _, _, _, _, _ => none
  | n + 1, v1, v2, v3, v4, I =>
    match g_X9_standing n 1 I with
    | none => none
    | some (r12, J11) =>
      bnd (J11 57 0) fun x13 =>
      if x13 ≤ r12 then
        if 0 ≤ v2 then
          g_X9_run_85 n v1 v2 v3 v4 J11
        else
          match g_X9_lowestStanding n J11 with
          | none => none
          | some (r21, J20) =>
            g_X9_run_85 n v1 r21 v4 v4 J20
      else
        if 0 ≤ v2 then
          g_X9_run_62 n (g_X9_run_28 n) v1 v2 v3 v4 J11
        else
          match g_X9_standing n 1 J11 with
          | none => none
          | some (r30, J29) =>
            if r30 ≤ 0 then
              g_X9_run_62 n (g_X9_run_28 n) v1 v2 v3 v4 J29
            else
              match g_X9_lowestStanding n J29 with
              | none => none
              | some (r35, J34) =>
                g_X9_run_62 n (g_X9_run_28 n) v1 r35 v4 v4 J34
set_option maxRecDepth 20000 in
theorem t_X9_run_28 {p : Nat} : ∀ (n : Nat) (v1 : Int32) (v2 : Int32) (v3 : Int32) (v4 : Int32) (I : IH) (w : Int32 × IH), g_X9_run_28 n v1 v2 v3 v4 I = some w → TT none mt_X9_run 28 [(0, .ref 55), (1, .int v1), (2, .int v2), (3, .int v3), (4, .int v4)] [] (83, I, R0 p) (some (.int w.1)) (83, w.2, R0 p) := by
  intro n
  induction n with
  | zero => intro v1 v2 v3 v4 I w hg; cases hg
  | succ n ih =>
    intro v1 v2 v3 v4 I w hg
    unfold g_X9_run_28 at hg
    refine TT_go 2 (pc' := 30) (lv' := [(0, .ref 55), (1, .int v1), (2, .int v2), (3, .int v3), (4, .int v4)]) (st' := [.int 1, .ref 55]) (h2 := (83, I, R0 p)) (by rfl) ?_
    cases hq9 : g_X9_standing n 1 I with
    | none => rw [hq9] at hg; cases hg
    | some w10 =>
      obtain ⟨r12, J11⟩ := w10
      rw [hq9] at hg
      dsimp only at hg
      refine TT_call (me' := mt_X9_standing) (as := [.ref 55, .int 1]) (rest := []) (r1 := some (.int r12)) (h1 := (83, J11, R0 p)) rfl rfl (by rfl) (t_X9_standing hq9) ?_
      obtain ⟨x13, hx13⟩ : ∃ x : Int32, x = (J11 57 0) := ⟨_, rfl⟩
      replace hg := bnd_use hx13 hg
      refine TT_go 4 (pc' := 39) (lv' := [(0, .ref 55), (1, .int v1), (2, .int v2), (3, .int v3), (4, .int v4)]) (st' := [.int x13, .int r12]) (h2 := (83, J11, R0 p)) (by subst hx13; rfl) ?_
      by_cases hc14 : x13 ≤ r12
      · rw [if_pos hc14] at hg
        refine TT_ige_t (t := 73) rfl rfl hc14 ?_
        refine TT_go 1 (pc' := 74) (lv' := [(0, .ref 55), (1, .int v1), (2, .int v2), (3, .int v3), (4, .int v4)]) (st' := [.int v2]) (h2 := (83, J11, R0 p)) (by rfl) ?_
        by_cases hc15 : 0 ≤ v2
        · rw [if_pos hc15] at hg
          refine TT_zge_t (t := 85) rfl rfl hc15 ?_
          refine TT_go 0 (pc' := 85) (lv' := [(0, .ref 55), (1, .int v1), (2, .int v2), (3, .int v3), (4, .int v4)]) (st' := []) (h2 := (83, J11, R0 p)) (by rfl) ?_
          refine TT_sub (lv2 := [(1, .int v1), (2, .int v2), (3, .int v3), (4, .int v4)]) rfl rfl ⟨rfl, rfl, rfl, rfl, trivial⟩ ?_
          exact t_X9_run_85 hg
        · rw [if_neg hc15] at hg
          refine TT_zge_f (t := 85) rfl rfl hc15 ?_
          refine TT_go 1 (pc' := 78) (lv' := [(0, .ref 55), (1, .int v1), (2, .int v2), (3, .int v3), (4, .int v4)]) (st' := [.ref 55]) (h2 := (83, J11, R0 p)) (by rfl) ?_
          cases hq18 : g_X9_lowestStanding n J11 with
          | none => rw [hq18] at hg; cases hg
          | some w19 =>
            obtain ⟨r21, J20⟩ := w19
            rw [hq18] at hg
            dsimp only at hg
            refine TT_call (me' := mt_X9_lowestStanding) (as := [.ref 55]) (rest := []) (r1 := some (.int r21)) (h1 := (83, J20, R0 p)) rfl rfl (by rfl) (t_X9_lowestStanding hq18) ?_
            refine TT_go 3 (pc' := 85) (lv' := [(3, .int v4), (2, .int r21), (0, .ref 55), (1, .int v1), (4, .int v4)]) (st' := []) (h2 := (83, J20, R0 p)) (by rfl) ?_
            refine TT_sub (lv2 := [(1, .int v1), (2, .int r21), (3, .int v4), (4, .int v4)]) rfl rfl ⟨rfl, rfl, rfl, rfl, trivial⟩ ?_
            exact t_X9_run_85 hg
      · rw [if_neg hc14] at hg
        refine TT_ige_f (t := 73) rfl rfl hc14 ?_
        refine TT_go 1 (pc' := 43) (lv' := [(0, .ref 55), (1, .int v1), (2, .int v2), (3, .int v3), (4, .int v4)]) (st' := [.int v2]) (h2 := (83, J11, R0 p)) (by rfl) ?_
        by_cases hc22 : 0 ≤ v2
        · rw [if_pos hc22] at hg
          refine TT_zge_t (t := 62) rfl rfl hc22 ?_
          refine TT_go 0 (pc' := 62) (lv' := [(0, .ref 55), (1, .int v1), (2, .int v2), (3, .int v3), (4, .int v4)]) (st' := []) (h2 := (83, J11, R0 p)) (by rfl) ?_
          refine TT_sub (lv2 := [(0, .ref 55), (1, .int v1), (2, .int v2), (3, .int v3), (4, .int v4)]) rfl rfl ⟨rfl, rfl, rfl, rfl, rfl, trivial⟩ ?_
          exact t_X9_run_62 ih hg
        · rw [if_neg hc22] at hg
          refine TT_zge_f (t := 62) rfl rfl hc22 ?_
          refine TT_go 2 (pc' := 48) (lv' := [(0, .ref 55), (1, .int v1), (2, .int v2), (3, .int v3), (4, .int v4)]) (st' := [.int 1, .ref 55]) (h2 := (83, J11, R0 p)) (by rfl) ?_
          cases hq27 : g_X9_standing n 1 J11 with
          | none => rw [hq27] at hg; cases hg
          | some w28 =>
            obtain ⟨r30, J29⟩ := w28
            rw [hq27] at hg
            dsimp only at hg
            refine TT_call (me' := mt_X9_standing) (as := [.ref 55, .int 1]) (rest := []) (r1 := some (.int r30)) (h1 := (83, J29, R0 p)) rfl rfl (by rfl) (t_X9_standing hq27) ?_
            refine TT_go 0 (pc' := 51) (lv' := [(0, .ref 55), (1, .int v1), (2, .int v2), (3, .int v3), (4, .int v4)]) (st' := [.int r30]) (h2 := (83, J29, R0 p)) (by rfl) ?_
            by_cases hc31 : r30 ≤ 0
            · rw [if_pos hc31] at hg
              refine TT_zle_t (t := 62) rfl rfl hc31 ?_
              refine TT_go 0 (pc' := 62) (lv' := [(0, .ref 55), (1, .int v1), (2, .int v2), (3, .int v3), (4, .int v4)]) (st' := []) (h2 := (83, J29, R0 p)) (by rfl) ?_
              refine TT_sub (lv2 := [(0, .ref 55), (1, .int v1), (2, .int v2), (3, .int v3), (4, .int v4)]) rfl rfl ⟨rfl, rfl, rfl, rfl, rfl, trivial⟩ ?_
              exact t_X9_run_62 ih hg
            · rw [if_neg hc31] at hg
              refine TT_zle_f (t := 62) rfl rfl hc31 ?_
              refine TT_go 1 (pc' := 55) (lv' := [(0, .ref 55), (1, .int v1), (2, .int v2), (3, .int v3), (4, .int v4)]) (st' := [.ref 55]) (h2 := (83, J29, R0 p)) (by rfl) ?_
              cases hq32 : g_X9_lowestStanding n J29 with
              | none => rw [hq32] at hg; cases hg
              | some w33 =>
                obtain ⟨r35, J34⟩ := w33
                rw [hq32] at hg
                dsimp only at hg
                refine TT_call (me' := mt_X9_lowestStanding) (as := [.ref 55]) (rest := []) (r1 := some (.int r35)) (h1 := (83, J34, R0 p)) rfl rfl (by rfl) (t_X9_lowestStanding hq32) ?_
                refine TT_go 3 (pc' := 62) (lv' := [(3, .int v4), (2, .int r35), (0, .ref 55), (1, .int v1), (4, .int v4)]) (st' := []) (h2 := (83, J34, R0 p)) (by rfl) ?_
                refine TT_sub (lv2 := [(0, .ref 55), (1, .int v1), (2, .int r35), (3, .int v4), (4, .int v4)]) rfl rfl ⟨rfl, rfl, rfl, rfl, rfl, trivial⟩ ?_
                exact t_X9_run_62 ih hg
def g_X9_run (n : Nat) (a0 : Int32) (I : IH) : Option (Int32 × IH) :=
  match g_X9_in n (Int32.toInt64 a0) 0 2 I with
  | none => none
  | some (r4, J3) =>
    if r4 = 0 then
      some ((-1), J3)
    else
      match g_X9_copy n 0 1 J3 with
      | none => none
      | some J8 =>
        g_X9_run_28 n a0 ((-4)) 0 0 J8
set_option maxRecDepth 20000 in
theorem t_X9_run {p : Nat} {n : Nat} {a0 : Int32} {I : IH} {w : Int32 × IH} (hg : g_X9_run n a0 I = some w) : TT none mt_X9_run 0 (lv_args 0 [.ref 55, .int a0]) [] (83, I, R0 p) (some (.int w.1)) (83, w.2, R0 p) := by
  unfold g_X9_run at hg
  refine TT_go 4 (pc' := 6) (lv' := [(0, .ref 55), (1, .int a0)]) (st' := [.long 2, .long 0, .long (Int32.toInt64 a0)]) (h2 := (83, I, R0 p)) (by rfl) ?_
  cases hq1 : g_X9_in n (Int32.toInt64 a0) 0 2 I with
  | none => rw [hq1] at hg; cases hg
  | some w2 =>
    obtain ⟨r4, J3⟩ := w2
    rw [hq1] at hg
    dsimp only at hg
    refine TT_call (me' := mt_X9_in) (as := [.long (Int32.toInt64 a0), .long 0, .long 2]) (rest := []) (r1 := some (.int r4)) (h1 := (83, J3, R0 p)) rfl rfl (by rfl) (t_X9_in hq1) ?_
    refine TT_go 0 (pc' := 9) (lv' := [(0, .ref 55), (1, .int a0)]) (st' := [.int r4]) (h2 := (83, J3, R0 p)) (by rfl) ?_
    by_cases hc5 : r4 = 0
    · rw [if_pos hc5] at hg
      refine TT_zne_f (t := 14) rfl rfl hc5 ?_
      refine TT_go 1 (pc' := 13) (lv' := [(0, .ref 55), (1, .int a0)]) (st' := [.int (-1)]) (h2 := (83, J3, R0 p)) (by rfl) ?_
      have hg := Option.some.inj hg
      subst hg
      exact TT_ret rfl rfl
    · rw [if_neg hc5] at hg
      refine TT_zne_t (t := 14) rfl rfl hc5 ?_
      refine TT_go 3 (pc' := 17) (lv' := [(0, .ref 55), (1, .int a0)]) (st' := [.int 1, .int 0, .ref 55]) (h2 := (83, J3, R0 p)) (by rfl) ?_
      cases hq6 : g_X9_copy n 0 1 J3 with
      | none => rw [hq6] at hg; cases hg
      | some w7 =>
        obtain ⟨J8, hJ8⟩ : ∃ J, J = w7 := ⟨_, rfl⟩
        rw [← hJ8] at hq6
        rw [hq6] at hg
        dsimp only at hg
        refine TT_call (me' := mt_X9_copy) (as := [.ref 55, .int 0, .int 1]) (rest := []) (r1 := none) (h1 := (83, J8, R0 p)) rfl rfl (by rfl) (t_X9_copy hq6) ?_
        refine TT_go 6 (pc' := 28) (lv' := [(4, .int 0), (3, .int 0), (2, .int (-4)), (0, .ref 55), (1, .int a0)]) (st' := []) (h2 := (83, J8, R0 p)) (by rfl) ?_
        refine TT_sub (lv2 := [(0, .ref 55), (1, .int a0), (2, .int (-4)), (3, .int 0), (4, .int 0)]) rfl rfl ⟨rfl, rfl, rfl, rfl, rfl, trivial⟩ ?_
        exact t_X9_run_28 n a0 ((-4)) 0 0 _ _ hg
def g_X9_figure_8 : Nat → Int32 → Int32 → Int32 → IH → Option (Int32 × IH)
  | 0, _, _, _, _ => none
  | n + 1, v3, v4, v5, I =>
    if v5 ≤ v3 then
      bnd (I 57 0) fun x3 =>
      if x3 = 0 then none else
      some ((v4 - v4 / x3 * x3), I)
    else
      bnd (I 57 0) fun x5 =>
      if x5 = 0 then none else
      bnd ((v4 / x5)) fun x7 =>
      bnd (v5 + (-1)) fun x8 =>
      g_X9_figure_8 n v3 x7 x8 I
set_option maxRecDepth 20000 in
theorem t_X9_figure_8 {p : Nat} : ∀ (n : Nat) (v3 : Int32) (v4 : Int32) (v5 : Int32) (I : IH) (w : Int32 × IH), g_X9_figure_8 n v3 v4 v5 I = some w → TT none mt_X9_figure 8 [(0, .ref 55), (3, .int v3), (4, .int v4), (5, .int v5)] [] (83, I, R0 p) (some (.int w.1)) (83, w.2, R0 p) := by
  intro n
  induction n with
  | zero => intro v3 v4 v5 I w hg; cases hg
  | succ n ih =>
    intro v3 v4 v5 I w hg
    unfold g_X9_figure_8 at hg
    refine TT_go 2 (pc' := 11) (lv' := [(0, .ref 55), (3, .int v3), (4, .int v4), (5, .int v5)]) (st' := [.int v3, .int v5]) (h2 := (83, I, R0 p)) (by rfl) ?_
    by_cases hc2 : v5 ≤ v3
    · rw [if_pos hc2] at hg
      refine TT_ile_t (t := 31) rfl rfl hc2 ?_
      obtain ⟨x3, hx3⟩ : ∃ x : Int32, x = (I 57 0) := ⟨_, rfl⟩
      replace hg := bnd_use hx3 hg
      refine TT_go 5 (pc' := 39) (lv' := [(0, .ref 55), (3, .int v3), (4, .int v4), (5, .int v5)]) (st' := [.int x3, .int v4]) (h2 := (83, I, R0 p)) (by subst hx3; rfl) ?_
      by_cases hc4 : x3 = 0
      · rw [if_pos hc4] at hg; cases hg
      rw [if_neg hc4] at hg
      refine TT_irem rfl hc4 ?_
      refine TT_go 0 (pc' := 40) (lv' := [(0, .ref 55), (3, .int v3), (4, .int v4), (5, .int v5)]) (st' := [.int (v4 - v4 / x3 * x3)]) (h2 := (83, I, R0 p)) (by rfl) ?_
      have hg := Option.some.inj hg
      subst hg
      exact TT_ret rfl rfl
    · rw [if_neg hc2] at hg
      refine TT_ile_f (t := 31) rfl rfl hc2 ?_
      obtain ⟨x5, hx5⟩ : ∃ x : Int32, x = (I 57 0) := ⟨_, rfl⟩
      replace hg := bnd_use hx5 hg
      refine TT_go 5 (pc' := 22) (lv' := [(0, .ref 55), (3, .int v3), (4, .int v4), (5, .int v5)]) (st' := [.int x5, .int v4]) (h2 := (83, I, R0 p)) (by subst hx5; rfl) ?_
      by_cases hc6 : x5 = 0
      · rw [if_pos hc6] at hg; cases hg
      rw [if_neg hc6] at hg
      refine TT_idiv rfl hc6 ?_
      obtain ⟨x7, hx7⟩ : ∃ x : Int32, x = ((v4 / x5)) := ⟨_, rfl⟩
      replace hg := bnd_use hx7 hg
      refine TT_go 1 (pc' := 25) (lv' := [(4, .int x7), (0, .ref 55), (3, .int v3), (5, .int v5)]) (st' := []) (h2 := (83, I, R0 p)) (by subst hx7; rfl) ?_
      obtain ⟨x8, hx8⟩ : ∃ x : Int32, x = (v5 + (-1)) := ⟨_, rfl⟩
      replace hg := bnd_use hx8 hg
      refine TT_go 1 (pc' := 28) (lv' := [(5, .int x8), (4, .int x7), (0, .ref 55), (3, .int v3)]) (st' := []) (h2 := (83, I, R0 p)) (by subst hx8; rfl) ?_
      refine TT_go 1 (pc' := 8) (lv' := [(5, .int x8), (4, .int x7), (0, .ref 55), (3, .int v3)]) (st' := []) (h2 := (83, I, R0 p)) (by rfl) ?_
      refine TT_sub (lv2 := [(0, .ref 55), (3, .int v3), (4, .int x7), (5, .int x8)]) rfl rfl ⟨rfl, rfl, rfl, rfl, trivial⟩ ?_
      exact ih v3 x7 x8 _ _ hg
def g_X9_figure (n : Nat) (a0 : Int32) (a1 : Int32) (a2 : Int32) (I : IH) : Option (Int32 × IH) :=
  bnd ((a1 - 1)) fun x1 =>
  g_X9_figure_8 n a2 a0 x1 I
set_option maxRecDepth 20000 in
theorem t_X9_figure {p : Nat} {n : Nat} {a0 : Int32} {a1 : Int32} {a2 : Int32} {I : IH} {w : Int32 × IH} (hg : g_X9_figure n a0 a1 a2 I = some w) : TT none mt_X9_figure 0 (lv_args 0 [.ref 55, .int a0, .int a1, .int a2]) [] (83, I, R0 p) (some (.int w.1)) (83, w.2, R0 p) := by
  unfold g_X9_figure at hg
  obtain ⟨x1, hx1⟩ : ∃ x : Int32, x = ((a1 - 1)) := ⟨_, rfl⟩
  replace hg := bnd_use hx1 hg
  refine TT_go 6 (pc' := 8) (lv' := [(5, .int x1), (4, .int a0), (0, .ref 55), (1, .int a0), (2, .int a1), (3, .int a2)]) (st' := []) (h2 := (83, I, R0 p)) (by subst hx1; rfl) ?_
  refine TT_sub (lv2 := [(0, .ref 55), (3, .int a2), (4, .int a0), (5, .int x1)]) rfl rfl ⟨rfl, rfl, rfl, rfl, trivial⟩ ?_
  exact t_X9_figure_8 n a2 a0 x1 _ _ hg
def g_X9_roundOf_12 : Nat → Int32 → Int32 → Int32 → Int32 → Int32 → IH → Option (Int32 × IH)
  | 0, _, _, _, _, _, _ => none
  | n + 1, v1, v2, v3, v4, v5, I =>
    if v3 ≤ v5 then
      some (v4, I)
    else
      if v2 = 0 then none else
      match g_X9_figure n v1 v2 (v5 - v5 / v2 * v2) I with
      | none => none
      | some (r9, J8) =>
        match g_X9_turnOf n 1 r9 J8 with
        | none => none
        | some (r13, J12) =>
          match g_X9_standing n 1 J12 with
          | none => none
          | some (r17, J16) =>
            bnd ((v4 + r17)) fun x18 =>
            match g_X9_fall n 1 J16 with
            | none => none
            | some J21 =>
              bnd (v5 + 1) fun x22 =>
              g_X9_roundOf_12 n v1 v2 v3 x18 x22 J21
set_option maxRecDepth 20000 in
theorem t_X9_roundOf_12 {p : Nat} : ∀ (n : Nat) (v1 : Int32) (v2 : Int32) (v3 : Int32) (v4 : Int32) (v5 : Int32) (I : IH) (w : Int32 × IH), g_X9_roundOf_12 n v1 v2 v3 v4 v5 I = some w → TT none mt_X9_roundOf 12 [(0, .ref 55), (1, .int v1), (2, .int v2), (3, .int v3), (4, .int v4), (5, .int v5)] [] (83, I, R0 p) (some (.int w.1)) (83, w.2, R0 p) := by
  intro n
  induction n with
  | zero => intro v1 v2 v3 v4 v5 I w hg; cases hg
  | succ n ih =>
    intro v1 v2 v3 v4 v5 I w hg
    unfold g_X9_roundOf_12 at hg
    refine TT_go 2 (pc' := 15) (lv' := [(0, .ref 55), (1, .int v1), (2, .int v2), (3, .int v3), (4, .int v4), (5, .int v5)]) (st' := [.int v3, .int v5]) (h2 := (83, I, R0 p)) (by rfl) ?_
    by_cases hc4 : v3 ≤ v5
    · rw [if_pos hc4] at hg
      refine TT_ige_t (t := 55) rfl rfl hc4 ?_
      refine TT_go 1 (pc' := 57) (lv' := [(0, .ref 55), (1, .int v1), (2, .int v2), (3, .int v3), (4, .int v4), (5, .int v5)]) (st' := [.int v4]) (h2 := (83, I, R0 p)) (by rfl) ?_
      have hg := Option.some.inj hg
      subst hg
      exact TT_ret rfl rfl
    · rw [if_neg hc4] at hg
      refine TT_ige_f (t := 55) rfl rfl hc4 ?_
      refine TT_go 7 (pc' := 26) (lv' := [(0, .ref 55), (1, .int v1), (2, .int v2), (3, .int v3), (4, .int v4), (5, .int v5)]) (st' := [.int v2, .int v5, .int v2, .int v1, .ref 55, .int 1, .ref 55]) (h2 := (83, I, R0 p)) (by rfl) ?_
      by_cases hc5 : v2 = 0
      · rw [if_pos hc5] at hg; cases hg
      rw [if_neg hc5] at hg
      refine TT_irem rfl hc5 ?_
      refine TT_go 0 (pc' := 27) (lv' := [(0, .ref 55), (1, .int v1), (2, .int v2), (3, .int v3), (4, .int v4), (5, .int v5)]) (st' := [.int (v5 - v5 / v2 * v2), .int v2, .int v1, .ref 55, .int 1, .ref 55]) (h2 := (83, I, R0 p)) (by rfl) ?_
      cases hq6 : g_X9_figure n v1 v2 (v5 - v5 / v2 * v2) I with
      | none => rw [hq6] at hg; cases hg
      | some w7 =>
        obtain ⟨r9, J8⟩ := w7
        rw [hq6] at hg
        dsimp only at hg
        refine TT_call (me' := mt_X9_figure) (as := [.ref 55, .int v1, .int v2, .int (v5 - v5 / v2 * v2)]) (rest := [.int 1, .ref 55]) (r1 := some (.int r9)) (h1 := (83, J8, R0 p)) rfl rfl (by rfl) (t_X9_figure hq6) ?_
        refine TT_go 0 (pc' := 30) (lv' := [(0, .ref 55), (1, .int v1), (2, .int v2), (3, .int v3), (4, .int v4), (5, .int v5)]) (st' := [.int r9, .int 1, .ref 55]) (h2 := (83, J8, R0 p)) (by rfl) ?_
        cases hq10 : g_X9_turnOf n 1 r9 J8 with
        | none => rw [hq10] at hg; cases hg
        | some w11 =>
          obtain ⟨r13, J12⟩ := w11
          rw [hq10] at hg
          dsimp only at hg
          refine TT_call (me' := mt_X9_turnOf) (as := [.ref 55, .int 1, .int r9]) (rest := []) (r1 := some (.int r13)) (h1 := (83, J12, R0 p)) rfl rfl (by rfl) (t_X9_turnOf hq10) ?_
          refine TT_go 4 (pc' := 38) (lv' := [(0, .ref 55), (1, .int v1), (2, .int v2), (3, .int v3), (4, .int v4), (5, .int v5)]) (st' := [.int 1, .ref 55, .int v4]) (h2 := (83, J12, R0 p)) (by rfl) ?_
          cases hq14 : g_X9_standing n 1 J12 with
          | none => rw [hq14] at hg; cases hg
          | some w15 =>
            obtain ⟨r17, J16⟩ := w15
            rw [hq14] at hg
            dsimp only at hg
            refine TT_call (me' := mt_X9_standing) (as := [.ref 55, .int 1]) (rest := [.int v4]) (r1 := some (.int r17)) (h1 := (83, J16, R0 p)) rfl rfl (by rfl) (t_X9_standing hq14) ?_
            obtain ⟨x18, hx18⟩ : ∃ x : Int32, x = ((v4 + r17)) := ⟨_, rfl⟩
            replace hg := bnd_use hx18 hg
            refine TT_go 2 (pc' := 44) (lv' := [(4, .int x18), (0, .ref 55), (1, .int v1), (2, .int v2), (3, .int v3), (5, .int v5)]) (st' := []) (h2 := (83, J16, R0 p)) (by subst hx18; rfl) ?_
            refine TT_go 2 (pc' := 46) (lv' := [(4, .int x18), (0, .ref 55), (1, .int v1), (2, .int v2), (3, .int v3), (5, .int v5)]) (st' := [.int 1, .ref 55]) (h2 := (83, J16, R0 p)) (by rfl) ?_
            cases hq19 : g_X9_fall n 1 J16 with
            | none => rw [hq19] at hg; cases hg
            | some w20 =>
              obtain ⟨J21, hJ21⟩ : ∃ J, J = w20 := ⟨_, rfl⟩
              rw [← hJ21] at hq19
              rw [hq19] at hg
              dsimp only at hg
              refine TT_call (me' := mt_X9_fall) (as := [.ref 55, .int 1]) (rest := []) (r1 := none) (h1 := (83, J21, R0 p)) rfl rfl (by rfl) (t_X9_fall hq19) ?_
              obtain ⟨x22, hx22⟩ : ∃ x : Int32, x = (v5 + 1) := ⟨_, rfl⟩
              replace hg := bnd_use hx22 hg
              refine TT_go 1 (pc' := 52) (lv' := [(5, .int x22), (4, .int x18), (0, .ref 55), (1, .int v1), (2, .int v2), (3, .int v3)]) (st' := []) (h2 := (83, J21, R0 p)) (by subst hx22; rfl) ?_
              refine TT_go 1 (pc' := 12) (lv' := [(5, .int x22), (4, .int x18), (0, .ref 55), (1, .int v1), (2, .int v2), (3, .int v3)]) (st' := []) (h2 := (83, J21, R0 p)) (by rfl) ?_
              refine TT_sub (lv2 := [(0, .ref 55), (1, .int v1), (2, .int v2), (3, .int v3), (4, .int x18), (5, .int x22)]) rfl rfl ⟨rfl, rfl, rfl, rfl, rfl, rfl, trivial⟩ ?_
              exact ih v1 v2 v3 x18 x22 _ _ hg
def g_X9_roundOf (n : Nat) (a0 : Int32) (a1 : Int32) (a2 : Int32) (I : IH) : Option (Int32 × IH) :=
  match g_X9_copy n 0 1 I with
  | none => none
  | some J3 =>
    g_X9_roundOf_12 n a0 a1 a2 0 0 J3
set_option maxRecDepth 20000 in
theorem t_X9_roundOf {p : Nat} {n : Nat} {a0 : Int32} {a1 : Int32} {a2 : Int32} {I : IH} {w : Int32 × IH} (hg : g_X9_roundOf n a0 a1 a2 I = some w) : TT none mt_X9_roundOf 0 (lv_args 0 [.ref 55, .int a0, .int a1, .int a2]) [] (83, I, R0 p) (some (.int w.1)) (83, w.2, R0 p) := by
  unfold g_X9_roundOf at hg
  refine TT_go 3 (pc' := 3) (lv' := [(0, .ref 55), (1, .int a0), (2, .int a1), (3, .int a2)]) (st' := [.int 1, .int 0, .ref 55]) (h2 := (83, I, R0 p)) (by rfl) ?_
  cases hq1 : g_X9_copy n 0 1 I with
  | none => rw [hq1] at hg; cases hg
  | some w2 =>
    obtain ⟨J3, hJ3⟩ : ∃ J, J = w2 := ⟨_, rfl⟩
    rw [← hJ3] at hq1
    rw [hq1] at hg
    dsimp only at hg
    refine TT_call (me' := mt_X9_copy) (as := [.ref 55, .int 0, .int 1]) (rest := []) (r1 := none) (h1 := (83, J3, R0 p)) rfl rfl (by rfl) (t_X9_copy hq1) ?_
    refine TT_go 4 (pc' := 12) (lv' := [(5, .int 0), (4, .int 0), (0, .ref 55), (1, .int a0), (2, .int a1), (3, .int a2)]) (st' := []) (h2 := (83, J3, R0 p)) (by rfl) ?_
    refine TT_sub (lv2 := [(0, .ref 55), (1, .int a0), (2, .int a1), (3, .int a2), (4, .int 0), (5, .int 0)]) rfl rfl ⟨rfl, rfl, rfl, rfl, rfl, rfl, trivial⟩ ?_
    exact t_X9_roundOf_12 n a0 a1 a2 0 0 _ _ hg
