/-! Written by wip/whole/gen20.py. -/
def g_X2_addTie (n : Nat) (q : Nat) (a0 : Int32) (a1 : Int32) (I : IH) : Option (Int32 × IH) :=
  if 8 ≤ (I q 8) then
    some (0, I)
  else
    match g_X2_isTold n q a0 I with
    | none => none
    | some (r5, J4) =>
      if r5 = 0 then
        some (0, J4)
      else
        match g_X2_isTold n q a1 J4 with
        | none => none
        | some (r10, J9) =>
          if r10 = 0 then
            some (0, J9)
          else
            if a0 = a1 then
              some (0, J9)
            else
              if inB a0 8 = true then
                bnd (J9 ((q + 8)) (Int32.toNatClampNeg a0)) fun x14 =>
                if inB a0 8 = true then
                  bnd (up2 J9 ((q + 8)) (Int32.toNatClampNeg a0) (x14 ||| (1 <<< (a1 &&& 31)))) fun J16 =>
                  bnd (up2 J16 q 8 ((J16 q 8) + 1)) fun J17 =>
                  some (1, J17)
                else none
              else none
set_option maxRecDepth 20000 in
theorem t_X2_addTie {q : Nat} (hq : q = 5 ∨ q = 18) {p : Nat} {n : Nat} {a0 : Int32} {a1 : Int32} {I : IH} {w : Int32 × IH} (hg : g_X2_addTie n q a0 a1 I = some w) : TT none mt_X2_addTie 0 (lv_args 0 [.ref q, .int a0, .int a1]) [] (83, I, R0 p) (some (.int w.1)) (83, w.2, R0 p) := by
  unfold g_X2_addTie at hg
  refine TT_go 3 (pc' := 6) (lv' := [(0, .ref q), (1, .int a0), (2, .int a1)]) (st' := [.int 8, .int (I q 8)]) (h2 := (83, I, R0 p)) (by rcases hq with rfl | rfl <;> rfl) ?_
  by_cases hc1 : 8 ≤ (I q 8)
  · rw [if_pos hc1] at hg
    refine TT_ige_t (t := 30) rfl rfl hc1 ?_
    refine TT_go 1 (pc' := 31) (lv' := [(0, .ref q), (1, .int a0), (2, .int a1)]) (st' := [.int 0]) (h2 := (83, I, R0 p)) (by rcases hq with rfl | rfl <;> rfl) ?_
    have hg := Option.some.inj hg
    subst hg
    exact TT_ret rfl rfl
  · rw [if_neg hc1] at hg
    refine TT_ige_f (t := 30) rfl rfl hc1 ?_
    refine TT_go 2 (pc' := 11) (lv' := [(0, .ref q), (1, .int a0), (2, .int a1)]) (st' := [.int a0, .ref q]) (h2 := (83, I, R0 p)) (by rcases hq with rfl | rfl <;> rfl) ?_
    cases hq2 : g_X2_isTold n q a0 I with
    | none => rw [hq2] at hg; cases hg
    | some w3 =>
      obtain ⟨r5, J4⟩ := w3
      rw [hq2] at hg
      dsimp only at hg
      refine TT_call (me' := mt_X2_isTold) (as := [.ref q, .int a0]) (rest := []) (r1 := some (.int r5)) (h1 := (83, J4, R0 p)) rfl rfl (by rcases hq with rfl | rfl <;> rfl) (t_X2_isTold hq hq2) ?_
      refine TT_go 0 (pc' := 14) (lv' := [(0, .ref q), (1, .int a0), (2, .int a1)]) (st' := [.int r5]) (h2 := (83, J4, R0 p)) (by rcases hq with rfl | rfl <;> rfl) ?_
      by_cases hc6 : r5 = 0
      · rw [if_pos hc6] at hg
        refine TT_zeq_t (t := 30) rfl rfl hc6 ?_
        refine TT_go 1 (pc' := 31) (lv' := [(0, .ref q), (1, .int a0), (2, .int a1)]) (st' := [.int 0]) (h2 := (83, J4, R0 p)) (by rcases hq with rfl | rfl <;> rfl) ?_
        have hg := Option.some.inj hg
        subst hg
        exact TT_ret rfl rfl
      · rw [if_neg hc6] at hg
        refine TT_zeq_f (t := 30) rfl rfl hc6 ?_
        refine TT_go 2 (pc' := 19) (lv' := [(0, .ref q), (1, .int a0), (2, .int a1)]) (st' := [.int a1, .ref q]) (h2 := (83, J4, R0 p)) (by rcases hq with rfl | rfl <;> rfl) ?_
        cases hq7 : g_X2_isTold n q a1 J4 with
        | none => rw [hq7] at hg; cases hg
        | some w8 =>
          obtain ⟨r10, J9⟩ := w8
          rw [hq7] at hg
          dsimp only at hg
          refine TT_call (me' := mt_X2_isTold) (as := [.ref q, .int a1]) (rest := []) (r1 := some (.int r10)) (h1 := (83, J9, R0 p)) rfl rfl (by rcases hq with rfl | rfl <;> rfl) (t_X2_isTold hq hq7) ?_
          refine TT_go 0 (pc' := 22) (lv' := [(0, .ref q), (1, .int a0), (2, .int a1)]) (st' := [.int r10]) (h2 := (83, J9, R0 p)) (by rcases hq with rfl | rfl <;> rfl) ?_
          by_cases hc11 : r10 = 0
          · rw [if_pos hc11] at hg
            refine TT_zeq_t (t := 30) rfl rfl hc11 ?_
            refine TT_go 1 (pc' := 31) (lv' := [(0, .ref q), (1, .int a0), (2, .int a1)]) (st' := [.int 0]) (h2 := (83, J9, R0 p)) (by rcases hq with rfl | rfl <;> rfl) ?_
            have hg := Option.some.inj hg
            subst hg
            exact TT_ret rfl rfl
          · rw [if_neg hc11] at hg
            refine TT_zeq_f (t := 30) rfl rfl hc11 ?_
            refine TT_go 2 (pc' := 27) (lv' := [(0, .ref q), (1, .int a0), (2, .int a1)]) (st' := [.int a1, .int a0]) (h2 := (83, J9, R0 p)) (by rcases hq with rfl | rfl <;> rfl) ?_
            by_cases hc12 : a0 = a1
            · rw [if_pos hc12] at hg
              refine TT_ine_f (t := 32) rfl rfl hc12 ?_
              refine TT_go 1 (pc' := 31) (lv' := [(0, .ref q), (1, .int a0), (2, .int a1)]) (st' := [.int 0]) (h2 := (83, J9, R0 p)) (by rcases hq with rfl | rfl <;> rfl) ?_
              have hg := Option.some.inj hg
              subst hg
              exact TT_ret rfl rfl
            · rw [if_neg hc12] at hg
              refine TT_ine_t (t := 32) rfl rfl hc12 ?_
              refine TT_go 4 (pc' := 38) (lv' := [(0, .ref q), (1, .int a0), (2, .int a1)]) (st' := [.int a0, .ref (q + 8), .int a0, .ref (q + 8)]) (h2 := (83, J9, R0 p)) (by rcases hq with rfl | rfl <;> rfl) ?_
              by_cases hb13 : inB a0 8 = true
              rotate_left
              · rw [if_neg hb13] at hg; cases hg
              rw [if_pos hb13] at hg
              refine TT_iald (n := 8) rfl (by rcases hq with rfl | rfl <;> rfl) hb13 ?_
              obtain ⟨x14, hx14⟩ : ∃ x : Int32, x = (J9 ((q + 8)) (Int32.toNatClampNeg a0)) := ⟨_, rfl⟩
              replace hg := bnd_use hx14 hg
              refine TT_go 0 (pc' := 39) (lv' := [(0, .ref q), (1, .int a0), (2, .int a1)]) (st' := [.int x14, .int a0, .ref (q + 8)]) (h2 := (83, J9, R0 p)) (by subst hx14; rcases hq with rfl | rfl <;> rfl) ?_
              refine TT_go 4 (pc' := 43) (lv' := [(0, .ref q), (1, .int a0), (2, .int a1)]) (st' := [.int (x14 ||| (1 <<< (a1 &&& 31))), .int a0, .ref (q + 8)]) (h2 := (83, J9, R0 p)) (by rcases hq with rfl | rfl <;> rfl) ?_
              by_cases hb15 : inB a0 8 = true
              rotate_left
              · rw [if_neg hb15] at hg; cases hg
              rw [if_pos hb15] at hg
              refine TT_iast (n := 8) rfl (by rcases hq with rfl | rfl <;> rfl) hb15 ?_
              obtain ⟨J16, hJ16⟩ : ∃ x : IH, x = (up2 J9 ((q + 8)) (Int32.toNatClampNeg a0) (x14 ||| (1 <<< (a1 &&& 31)))) := ⟨_, rfl⟩
              replace hg := bnd_use hJ16 hg
              refine TT_go 0 (pc' := 44) (lv' := [(0, .ref q), (1, .int a0), (2, .int a1)]) (st' := []) (h2 := (83, J16, R0 p)) (by subst hJ16; rcases hq with rfl | rfl <;> rfl) ?_
              obtain ⟨J17, hJ17⟩ : ∃ x : IH, x = (up2 J16 q 8 ((J16 q 8) + 1)) := ⟨_, rfl⟩
              replace hg := bnd_use hJ17 hg
              refine TT_go 6 (pc' := 54) (lv' := [(0, .ref q), (1, .int a0), (2, .int a1)]) (st' := []) (h2 := (83, J17, R0 p)) (by subst hJ17; rcases hq with rfl | rfl <;> rfl) ?_
              refine TT_go 1 (pc' := 55) (lv' := [(0, .ref q), (1, .int a0), (2, .int a1)]) (st' := [.int 1]) (h2 := (83, J17, R0 p)) (by rcases hq with rfl | rfl <;> rfl) ?_
              have hg := Option.some.inj hg
              subst hg
              exact TT_ret rfl rfl
def g_X2_addClerk (n : Nat) (q : Nat) (a0 : Int32) (a1 : Int32) (a2 : Int32) (I : IH) : Option (Int32 × IH) :=
  if 8 ≤ (I q 11) then
    some (0, I)
  else
    match g_X2_isTold n q a0 I with
    | none => none
    | some (r5, J4) =>
      if r5 = 0 then
        some (0, J4)
      else
        match g_X8_within n a1 1 99 J4 with
        | none => none
        | some (r10, J9) =>
          if r10 = 0 then
            some (0, J9)
          else
            match g_X8_within n a2 0 99 J9 with
            | none => none
            | some (r15, J14) =>
              if r15 = 0 then
                some (0, J14)
              else
                if inB (J14 q 11) 8 = true then
                  bnd (up2 J14 ((q + 10)) (Int32.toNatClampNeg (J14 q 11)) a0) fun J18 =>
                  if inB (J18 q 11) 8 = true then
                    bnd (up2 J18 ((q + 11)) (Int32.toNatClampNeg (J18 q 11)) a1) fun J20 =>
                    if inB (J20 q 11) 8 = true then
                      bnd (up2 J20 ((q + 12)) (Int32.toNatClampNeg (J20 q 11)) a2) fun J22 =>
                      bnd (up2 J22 q 11 ((J22 q 11) + 1)) fun J23 =>
                      some (1, J23)
                    else none
                  else none
                else none
set_option maxRecDepth 20000 in
theorem t_X2_addClerk {q : Nat} (hq : q = 5 ∨ q = 18) {p : Nat} {n : Nat} {a0 : Int32} {a1 : Int32} {a2 : Int32} {I : IH} {w : Int32 × IH} (hg : g_X2_addClerk n q a0 a1 a2 I = some w) : TT none mt_X2_addClerk 0 (lv_args 0 [.ref q, .int a0, .int a1, .int a2]) [] (83, I, R0 p) (some (.int w.1)) (83, w.2, R0 p) := by
  unfold g_X2_addClerk at hg
  refine TT_go 3 (pc' := 6) (lv' := [(0, .ref q), (1, .int a0), (2, .int a1), (3, .int a2)]) (st' := [.int 8, .int (I q 11)]) (h2 := (83, I, R0 p)) (by rcases hq with rfl | rfl <;> rfl) ?_
  by_cases hc1 : 8 ≤ (I q 11)
  · rw [if_pos hc1] at hg
    refine TT_ige_t (t := 37) rfl rfl hc1 ?_
    refine TT_go 1 (pc' := 38) (lv' := [(0, .ref q), (1, .int a0), (2, .int a1), (3, .int a2)]) (st' := [.int 0]) (h2 := (83, I, R0 p)) (by rcases hq with rfl | rfl <;> rfl) ?_
    have hg := Option.some.inj hg
    subst hg
    exact TT_ret rfl rfl
  · rw [if_neg hc1] at hg
    refine TT_ige_f (t := 37) rfl rfl hc1 ?_
    refine TT_go 2 (pc' := 11) (lv' := [(0, .ref q), (1, .int a0), (2, .int a1), (3, .int a2)]) (st' := [.int a0, .ref q]) (h2 := (83, I, R0 p)) (by rcases hq with rfl | rfl <;> rfl) ?_
    cases hq2 : g_X2_isTold n q a0 I with
    | none => rw [hq2] at hg; cases hg
    | some w3 =>
      obtain ⟨r5, J4⟩ := w3
      rw [hq2] at hg
      dsimp only at hg
      refine TT_call (me' := mt_X2_isTold) (as := [.ref q, .int a0]) (rest := []) (r1 := some (.int r5)) (h1 := (83, J4, R0 p)) rfl rfl (by rcases hq with rfl | rfl <;> rfl) (t_X2_isTold hq hq2) ?_
      refine TT_go 0 (pc' := 14) (lv' := [(0, .ref q), (1, .int a0), (2, .int a1), (3, .int a2)]) (st' := [.int r5]) (h2 := (83, J4, R0 p)) (by rcases hq with rfl | rfl <;> rfl) ?_
      by_cases hc6 : r5 = 0
      · rw [if_pos hc6] at hg
        refine TT_zeq_t (t := 37) rfl rfl hc6 ?_
        refine TT_go 1 (pc' := 38) (lv' := [(0, .ref q), (1, .int a0), (2, .int a1), (3, .int a2)]) (st' := [.int 0]) (h2 := (83, J4, R0 p)) (by rcases hq with rfl | rfl <;> rfl) ?_
        have hg := Option.some.inj hg
        subst hg
        exact TT_ret rfl rfl
      · rw [if_neg hc6] at hg
        refine TT_zeq_f (t := 37) rfl rfl hc6 ?_
        refine TT_go 3 (pc' := 21) (lv' := [(0, .ref q), (1, .int a0), (2, .int a1), (3, .int a2)]) (st' := [.int 99, .int 1, .int a1]) (h2 := (83, J4, R0 p)) (by rcases hq with rfl | rfl <;> rfl) ?_
        cases hq7 : g_X8_within n a1 1 99 J4 with
        | none => rw [hq7] at hg; cases hg
        | some w8 =>
          obtain ⟨r10, J9⟩ := w8
          rw [hq7] at hg
          dsimp only at hg
          refine TT_call (me' := mt_X8_within) (as := [.int a1, .int 1, .int 99]) (rest := []) (r1 := some (.int r10)) (h1 := (83, J9, R0 p)) rfl rfl (by rcases hq with rfl | rfl <;> rfl) (t_X8_within hq7) ?_
          refine TT_go 0 (pc' := 24) (lv' := [(0, .ref q), (1, .int a0), (2, .int a1), (3, .int a2)]) (st' := [.int r10]) (h2 := (83, J9, R0 p)) (by rcases hq with rfl | rfl <;> rfl) ?_
          by_cases hc11 : r10 = 0
          · rw [if_pos hc11] at hg
            refine TT_zeq_t (t := 37) rfl rfl hc11 ?_
            refine TT_go 1 (pc' := 38) (lv' := [(0, .ref q), (1, .int a0), (2, .int a1), (3, .int a2)]) (st' := [.int 0]) (h2 := (83, J9, R0 p)) (by rcases hq with rfl | rfl <;> rfl) ?_
            have hg := Option.some.inj hg
            subst hg
            exact TT_ret rfl rfl
          · rw [if_neg hc11] at hg
            refine TT_zeq_f (t := 37) rfl rfl hc11 ?_
            refine TT_go 3 (pc' := 31) (lv' := [(0, .ref q), (1, .int a0), (2, .int a1), (3, .int a2)]) (st' := [.int 99, .int 0, .int a2]) (h2 := (83, J9, R0 p)) (by rcases hq with rfl | rfl <;> rfl) ?_
            cases hq12 : g_X8_within n a2 0 99 J9 with
            | none => rw [hq12] at hg; cases hg
            | some w13 =>
              obtain ⟨r15, J14⟩ := w13
              rw [hq12] at hg
              dsimp only at hg
              refine TT_call (me' := mt_X8_within) (as := [.int a2, .int 0, .int 99]) (rest := []) (r1 := some (.int r15)) (h1 := (83, J14, R0 p)) rfl rfl (by rcases hq with rfl | rfl <;> rfl) (t_X8_within hq12) ?_
              refine TT_go 0 (pc' := 34) (lv' := [(0, .ref q), (1, .int a0), (2, .int a1), (3, .int a2)]) (st' := [.int r15]) (h2 := (83, J14, R0 p)) (by rcases hq with rfl | rfl <;> rfl) ?_
              by_cases hc16 : r15 = 0
              · rw [if_pos hc16] at hg
                refine TT_zne_f (t := 39) rfl rfl hc16 ?_
                refine TT_go 1 (pc' := 38) (lv' := [(0, .ref q), (1, .int a0), (2, .int a1), (3, .int a2)]) (st' := [.int 0]) (h2 := (83, J14, R0 p)) (by rcases hq with rfl | rfl <;> rfl) ?_
                have hg := Option.some.inj hg
                subst hg
                exact TT_ret rfl rfl
              · rw [if_neg hc16] at hg
                refine TT_zne_t (t := 39) rfl rfl hc16 ?_
                refine TT_go 5 (pc' := 48) (lv' := [(0, .ref q), (1, .int a0), (2, .int a1), (3, .int a2)]) (st' := [.int a0, .int (J14 q 11), .ref (q + 10)]) (h2 := (83, J14, R0 p)) (by rcases hq with rfl | rfl <;> rfl) ?_
                by_cases hb17 : inB (J14 q 11) 8 = true
                rotate_left
                · rw [if_neg hb17] at hg; cases hg
                rw [if_pos hb17] at hg
                refine TT_iast (n := 8) rfl (by rcases hq with rfl | rfl <;> rfl) hb17 ?_
                obtain ⟨J18, hJ18⟩ : ∃ x : IH, x = (up2 J14 ((q + 10)) (Int32.toNatClampNeg (J14 q 11)) a0) := ⟨_, rfl⟩
                replace hg := bnd_use hJ18 hg
                refine TT_go 0 (pc' := 49) (lv' := [(0, .ref q), (1, .int a0), (2, .int a1), (3, .int a2)]) (st' := []) (h2 := (83, J18, R0 p)) (by subst hJ18; rcases hq with rfl | rfl <;> rfl) ?_
                refine TT_go 5 (pc' := 58) (lv' := [(0, .ref q), (1, .int a0), (2, .int a1), (3, .int a2)]) (st' := [.int a1, .int (J18 q 11), .ref (q + 11)]) (h2 := (83, J18, R0 p)) (by rcases hq with rfl | rfl <;> rfl) ?_
                by_cases hb19 : inB (J18 q 11) 8 = true
                rotate_left
                · rw [if_neg hb19] at hg; cases hg
                rw [if_pos hb19] at hg
                refine TT_iast (n := 8) rfl (by rcases hq with rfl | rfl <;> rfl) hb19 ?_
                obtain ⟨J20, hJ20⟩ : ∃ x : IH, x = (up2 J18 ((q + 11)) (Int32.toNatClampNeg (J18 q 11)) a1) := ⟨_, rfl⟩
                replace hg := bnd_use hJ20 hg
                refine TT_go 0 (pc' := 59) (lv' := [(0, .ref q), (1, .int a0), (2, .int a1), (3, .int a2)]) (st' := []) (h2 := (83, J20, R0 p)) (by subst hJ20; rcases hq with rfl | rfl <;> rfl) ?_
                refine TT_go 5 (pc' := 68) (lv' := [(0, .ref q), (1, .int a0), (2, .int a1), (3, .int a2)]) (st' := [.int a2, .int (J20 q 11), .ref (q + 12)]) (h2 := (83, J20, R0 p)) (by rcases hq with rfl | rfl <;> rfl) ?_
                by_cases hb21 : inB (J20 q 11) 8 = true
                rotate_left
                · rw [if_neg hb21] at hg; cases hg
                rw [if_pos hb21] at hg
                refine TT_iast (n := 8) rfl (by rcases hq with rfl | rfl <;> rfl) hb21 ?_
                obtain ⟨J22, hJ22⟩ : ∃ x : IH, x = (up2 J20 ((q + 12)) (Int32.toNatClampNeg (J20 q 11)) a2) := ⟨_, rfl⟩
                replace hg := bnd_use hJ22 hg
                refine TT_go 0 (pc' := 69) (lv' := [(0, .ref q), (1, .int a0), (2, .int a1), (3, .int a2)]) (st' := []) (h2 := (83, J22, R0 p)) (by subst hJ22; rcases hq with rfl | rfl <;> rfl) ?_
                obtain ⟨J23, hJ23⟩ : ∃ x : IH, x = (up2 J22 q 11 ((J22 q 11) + 1)) := ⟨_, rfl⟩
                replace hg := bnd_use hJ23 hg
                refine TT_go 6 (pc' := 79) (lv' := [(0, .ref q), (1, .int a0), (2, .int a1), (3, .int a2)]) (st' := []) (h2 := (83, J23, R0 p)) (by subst hJ23; rcases hq with rfl | rfl <;> rfl) ?_
                refine TT_go 1 (pc' := 80) (lv' := [(0, .ref q), (1, .int a0), (2, .int a1), (3, .int a2)]) (st' := [.int 1]) (h2 := (83, J23, R0 p)) (by rcases hq with rfl | rfl <;> rfl) ?_
                have hg := Option.some.inj hg
                subst hg
                exact TT_ret rfl rfl
def g_X2_setPartner (n : Nat) (q : Nat) (a0 : Int32) (a1 : Int32) (I : IH) : Option (Int32 × IH) :=
  match g_X2_isTold n q a0 I with
  | none => none
  | some (r4, J3) =>
    if r4 = 0 then
      some (0, J3)
    else
      match g_X8_isHand n a1 J3 with
      | none => none
      | some (r9, J8) =>
        if r9 = 0 then
          some (0, J8)
        else
          if inB a0 8 = true then
            bnd (up2 J8 ((q + 3)) (Int32.toNatClampNeg a0) a1) fun J12 =>
            some (1, J12)
          else none
set_option maxRecDepth 20000 in
theorem t_X2_setPartner {q : Nat} (hq : q = 5 ∨ q = 18) {p : Nat} {n : Nat} {a0 : Int32} {a1 : Int32} {I : IH} {w : Int32 × IH} (hg : g_X2_setPartner n q a0 a1 I = some w) : TT none mt_X2_setPartner 0 (lv_args 0 [.ref q, .int a0, .int a1]) [] (83, I, R0 p) (some (.int w.1)) (83, w.2, R0 p) := by
  unfold g_X2_setPartner at hg
  refine TT_go 2 (pc' := 2) (lv' := [(0, .ref q), (1, .int a0), (2, .int a1)]) (st' := [.int a0, .ref q]) (h2 := (83, I, R0 p)) (by rcases hq with rfl | rfl <;> rfl) ?_
  cases hq1 : g_X2_isTold n q a0 I with
  | none => rw [hq1] at hg; cases hg
  | some w2 =>
    obtain ⟨r4, J3⟩ := w2
    rw [hq1] at hg
    dsimp only at hg
    refine TT_call (me' := mt_X2_isTold) (as := [.ref q, .int a0]) (rest := []) (r1 := some (.int r4)) (h1 := (83, J3, R0 p)) rfl rfl (by rcases hq with rfl | rfl <;> rfl) (t_X2_isTold hq hq1) ?_
    refine TT_go 0 (pc' := 5) (lv' := [(0, .ref q), (1, .int a0), (2, .int a1)]) (st' := [.int r4]) (h2 := (83, J3, R0 p)) (by rcases hq with rfl | rfl <;> rfl) ?_
    by_cases hc5 : r4 = 0
    · rw [if_pos hc5] at hg
      refine TT_zeq_t (t := 15) rfl rfl hc5 ?_
      refine TT_go 1 (pc' := 16) (lv' := [(0, .ref q), (1, .int a0), (2, .int a1)]) (st' := [.int 0]) (h2 := (83, J3, R0 p)) (by rcases hq with rfl | rfl <;> rfl) ?_
      have hg := Option.some.inj hg
      subst hg
      exact TT_ret rfl rfl
    · rw [if_neg hc5] at hg
      refine TT_zeq_f (t := 15) rfl rfl hc5 ?_
      refine TT_go 1 (pc' := 9) (lv' := [(0, .ref q), (1, .int a0), (2, .int a1)]) (st' := [.int a1]) (h2 := (83, J3, R0 p)) (by rcases hq with rfl | rfl <;> rfl) ?_
      cases hq6 : g_X8_isHand n a1 J3 with
      | none => rw [hq6] at hg; cases hg
      | some w7 =>
        obtain ⟨r9, J8⟩ := w7
        rw [hq6] at hg
        dsimp only at hg
        refine TT_call (me' := mt_X8_isHand) (as := [.int a1]) (rest := []) (r1 := some (.int r9)) (h1 := (83, J8, R0 p)) rfl rfl (by rcases hq with rfl | rfl <;> rfl) (t_X8_isHand hq6) ?_
        refine TT_go 0 (pc' := 12) (lv' := [(0, .ref q), (1, .int a0), (2, .int a1)]) (st' := [.int r9]) (h2 := (83, J8, R0 p)) (by rcases hq with rfl | rfl <;> rfl) ?_
        by_cases hc10 : r9 = 0
        · rw [if_pos hc10] at hg
          refine TT_zne_f (t := 17) rfl rfl hc10 ?_
          refine TT_go 1 (pc' := 16) (lv' := [(0, .ref q), (1, .int a0), (2, .int a1)]) (st' := [.int 0]) (h2 := (83, J8, R0 p)) (by rcases hq with rfl | rfl <;> rfl) ?_
          have hg := Option.some.inj hg
          subst hg
          exact TT_ret rfl rfl
        · rw [if_neg hc10] at hg
          refine TT_zne_t (t := 17) rfl rfl hc10 ?_
          refine TT_go 4 (pc' := 23) (lv' := [(0, .ref q), (1, .int a0), (2, .int a1)]) (st' := [.int a1, .int a0, .ref (q + 3)]) (h2 := (83, J8, R0 p)) (by rcases hq with rfl | rfl <;> rfl) ?_
          by_cases hb11 : inB a0 8 = true
          rotate_left
          · rw [if_neg hb11] at hg; cases hg
          rw [if_pos hb11] at hg
          refine TT_iast (n := 8) rfl (by rcases hq with rfl | rfl <;> rfl) hb11 ?_
          obtain ⟨J12, hJ12⟩ : ∃ x : IH, x = (up2 J8 ((q + 3)) (Int32.toNatClampNeg a0) a1) := ⟨_, rfl⟩
          replace hg := bnd_use hJ12 hg
          refine TT_go 0 (pc' := 24) (lv' := [(0, .ref q), (1, .int a0), (2, .int a1)]) (st' := []) (h2 := (83, J12, R0 p)) (by subst hJ12; rcases hq with rfl | rfl <;> rfl) ?_
          refine TT_go 1 (pc' := 25) (lv' := [(0, .ref q), (1, .int a0), (2, .int a1)]) (st' := [.int 1]) (h2 := (83, J12, R0 p)) (by rcases hq with rfl | rfl <;> rfl) ?_
          have hg := Option.some.inj hg
          subst hg
          exact TT_ret rfl rfl
def g_X2_setRisks (n : Nat) (q : Nat) (a0 : Int32) (a1 : Int32) (I : IH) : Option (Int32 × IH) :=
  match g_X8_within n a0 0 99 I with
  | none => none
  | some (r4, J3) =>
    if r4 = 0 then
      some (0, J3)
    else
      match g_X8_within n a1 0 99 J3 with
      | none => none
      | some (r9, J8) =>
        if r9 = 0 then
          some (0, J8)
        else
          bnd (up2 J8 q 15 a0) fun J11 =>
          bnd (up2 J11 q 16 a1) fun J12 =>
          some (1, J12)
set_option maxRecDepth 20000 in
theorem t_X2_setRisks {q : Nat} (hq : q = 5 ∨ q = 18) {p : Nat} {n : Nat} {a0 : Int32} {a1 : Int32} {I : IH} {w : Int32 × IH} (hg : g_X2_setRisks n q a0 a1 I = some w) : TT none mt_X2_setRisks 0 (lv_args 0 [.ref q, .int a0, .int a1]) [] (83, I, R0 p) (some (.int w.1)) (83, w.2, R0 p) := by
  unfold g_X2_setRisks at hg
  refine TT_go 3 (pc' := 4) (lv' := [(0, .ref q), (1, .int a0), (2, .int a1)]) (st' := [.int 99, .int 0, .int a0]) (h2 := (83, I, R0 p)) (by rcases hq with rfl | rfl <;> rfl) ?_
  cases hq1 : g_X8_within n a0 0 99 I with
  | none => rw [hq1] at hg; cases hg
  | some w2 =>
    obtain ⟨r4, J3⟩ := w2
    rw [hq1] at hg
    dsimp only at hg
    refine TT_call (me' := mt_X8_within) (as := [.int a0, .int 0, .int 99]) (rest := []) (r1 := some (.int r4)) (h1 := (83, J3, R0 p)) rfl rfl (by rcases hq with rfl | rfl <;> rfl) (t_X8_within hq1) ?_
    refine TT_go 0 (pc' := 7) (lv' := [(0, .ref q), (1, .int a0), (2, .int a1)]) (st' := [.int r4]) (h2 := (83, J3, R0 p)) (by rcases hq with rfl | rfl <;> rfl) ?_
    by_cases hc5 : r4 = 0
    · rw [if_pos hc5] at hg
      refine TT_zeq_t (t := 20) rfl rfl hc5 ?_
      refine TT_go 1 (pc' := 21) (lv' := [(0, .ref q), (1, .int a0), (2, .int a1)]) (st' := [.int 0]) (h2 := (83, J3, R0 p)) (by rcases hq with rfl | rfl <;> rfl) ?_
      have hg := Option.some.inj hg
      subst hg
      exact TT_ret rfl rfl
    · rw [if_neg hc5] at hg
      refine TT_zeq_f (t := 20) rfl rfl hc5 ?_
      refine TT_go 3 (pc' := 14) (lv' := [(0, .ref q), (1, .int a0), (2, .int a1)]) (st' := [.int 99, .int 0, .int a1]) (h2 := (83, J3, R0 p)) (by rcases hq with rfl | rfl <;> rfl) ?_
      cases hq6 : g_X8_within n a1 0 99 J3 with
      | none => rw [hq6] at hg; cases hg
      | some w7 =>
        obtain ⟨r9, J8⟩ := w7
        rw [hq6] at hg
        dsimp only at hg
        refine TT_call (me' := mt_X8_within) (as := [.int a1, .int 0, .int 99]) (rest := []) (r1 := some (.int r9)) (h1 := (83, J8, R0 p)) rfl rfl (by rcases hq with rfl | rfl <;> rfl) (t_X8_within hq6) ?_
        refine TT_go 0 (pc' := 17) (lv' := [(0, .ref q), (1, .int a0), (2, .int a1)]) (st' := [.int r9]) (h2 := (83, J8, R0 p)) (by rcases hq with rfl | rfl <;> rfl) ?_
        by_cases hc10 : r9 = 0
        · rw [if_pos hc10] at hg
          refine TT_zne_f (t := 22) rfl rfl hc10 ?_
          refine TT_go 1 (pc' := 21) (lv' := [(0, .ref q), (1, .int a0), (2, .int a1)]) (st' := [.int 0]) (h2 := (83, J8, R0 p)) (by rcases hq with rfl | rfl <;> rfl) ?_
          have hg := Option.some.inj hg
          subst hg
          exact TT_ret rfl rfl
        · rw [if_neg hc10] at hg
          refine TT_zne_t (t := 22) rfl rfl hc10 ?_
          obtain ⟨J11, hJ11⟩ : ∃ x : IH, x = (up2 J8 q 15 a0) := ⟨_, rfl⟩
          replace hg := bnd_use hJ11 hg
          refine TT_go 3 (pc' := 27) (lv' := [(0, .ref q), (1, .int a0), (2, .int a1)]) (st' := []) (h2 := (83, J11, R0 p)) (by subst hJ11; rcases hq with rfl | rfl <;> rfl) ?_
          obtain ⟨J12, hJ12⟩ : ∃ x : IH, x = (up2 J11 q 16 a1) := ⟨_, rfl⟩
          replace hg := bnd_use hJ12 hg
          refine TT_go 3 (pc' := 32) (lv' := [(0, .ref q), (1, .int a0), (2, .int a1)]) (st' := []) (h2 := (83, J12, R0 p)) (by subst hJ12; rcases hq with rfl | rfl <;> rfl) ?_
          refine TT_go 1 (pc' := 33) (lv' := [(0, .ref q), (1, .int a0), (2, .int a1)]) (st' := [.int 1]) (h2 := (83, J12, R0 p)) (by rcases hq with rfl | rfl <;> rfl) ?_
          have hg := Option.some.inj hg
          subst hg
          exact TT_ret rfl rfl
def g_X2_tiedToSome_30 (n : Nat) (q : Nat) (k4 : Int32 → Int32 → Int32 → IH → Option (Int32 × IH)) (v1 : Int32) (v2 : Int32) (v3 : Int32) (I : IH) : Option (Int32 × IH) :=
  bnd (v3 + 1) fun x6 =>
  k4 v1 v2 x6 I
set_option maxRecDepth 20000 in
theorem t_X2_tiedToSome_30 {q : Nat} (hq : q = 5 ∨ q = 18) {p : Nat} {n : Nat} {k4 : Int32 → Int32 → Int32 → IH → Option (Int32 × IH)} (hk4 : ∀ (v1 : Int32) (v2 : Int32) (v3 : Int32) (I : IH) (w : Int32 × IH), k4 v1 v2 v3 I = some w → TT none mt_X2_tiedToSome 4 [(0, .ref q), (1, .int v1), (2, .int v2), (3, .int v3)] [] (83, I, R0 p) (some (.int w.1)) (83, w.2, R0 p)) {v1 : Int32} {v2 : Int32} {v3 : Int32} {I : IH} {w : Int32 × IH} (hg : g_X2_tiedToSome_30 n q k4 v1 v2 v3 I = some w) : TT none mt_X2_tiedToSome 30 [(0, .ref q), (1, .int v1), (2, .int v2), (3, .int v3)] [] (83, I, R0 p) (some (.int w.1)) (83, w.2, R0 p) := by
  unfold g_X2_tiedToSome_30 at hg
  obtain ⟨x6, hx6⟩ : ∃ x : Int32, x = (v3 + 1) := ⟨_, rfl⟩
  replace hg := bnd_use hx6 hg
  refine TT_go 1 (pc' := 33) (lv' := [(3, .int x6), (0, .ref q), (1, .int v1), (2, .int v2)]) (st' := []) (h2 := (83, I, R0 p)) (by subst hx6; rcases hq with rfl | rfl <;> rfl) ?_
  refine TT_go 1 (pc' := 4) (lv' := [(3, .int x6), (0, .ref q), (1, .int v1), (2, .int v2)]) (st' := []) (h2 := (83, I, R0 p)) (by rcases hq with rfl | rfl <;> rfl) ?_
  refine TT_sub (lv2 := [(0, .ref q), (1, .int v1), (2, .int v2), (3, .int x6)]) rfl rfl ⟨rfl, rfl, rfl, rfl, trivial⟩ ?_
  exact hk4 v1 v2 x6 _ _ hg
def g_X2_tiedToSome_4 (q : Nat) : Nat → Int32 → Int32 → Int32 → IH → Option (Int32 × IH)
  | 0, _, _, _, _ => none
  | n + 1, v1, v2, v3, I =>
    if (I q 0) ≤ v3 then
      some (v2, I)
    else
      if ((v1 >>> (v3 &&& 31)) &&& 1) = 1 then
        if inB v3 8 = true then
          bnd (I ((q + 8)) (Int32.toNatClampNeg v3)) fun x4 =>
          bnd ((v2 ||| x4)) fun x5 =>
          g_X2_tiedToSome_30 n q (g_X2_tiedToSome_4 q n) v1 x5 v3 I
        else none
      else
        g_X2_tiedToSome_30 n q (g_X2_tiedToSome_4 q n) v1 v2 v3 I
set_option maxRecDepth 20000 in
theorem t_X2_tiedToSome_4 {q : Nat} (hq : q = 5 ∨ q = 18) {p : Nat} : ∀ (n : Nat) (v1 : Int32) (v2 : Int32) (v3 : Int32) (I : IH) (w : Int32 × IH), g_X2_tiedToSome_4 q n v1 v2 v3 I = some w → TT none mt_X2_tiedToSome 4 [(0, .ref q), (1, .int v1), (2, .int v2), (3, .int v3)] [] (83, I, R0 p) (some (.int w.1)) (83, w.2, R0 p) := by
  intro n
  induction n with
  | zero => intro v1 v2 v3 I w hg; cases hg
  | succ n ih =>
    intro v1 v2 v3 I w hg
    unfold g_X2_tiedToSome_4 at hg
    refine TT_go 3 (pc' := 9) (lv' := [(0, .ref q), (1, .int v1), (2, .int v2), (3, .int v3)]) (st' := [.int (I q 0), .int v3]) (h2 := (83, I, R0 p)) (by rcases hq with rfl | rfl <;> rfl) ?_
    by_cases hc1 : (I q 0) ≤ v3
    · rw [if_pos hc1] at hg
      refine TT_ige_t (t := 36) rfl rfl hc1 ?_
      refine TT_go 1 (pc' := 37) (lv' := [(0, .ref q), (1, .int v1), (2, .int v2), (3, .int v3)]) (st' := [.int v2]) (h2 := (83, I, R0 p)) (by rcases hq with rfl | rfl <;> rfl) ?_
      have hg := Option.some.inj hg
      subst hg
      exact TT_ret rfl rfl
    · rw [if_neg hc1] at hg
      refine TT_ige_f (t := 36) rfl rfl hc1 ?_
      refine TT_go 6 (pc' := 18) (lv' := [(0, .ref q), (1, .int v1), (2, .int v2), (3, .int v3)]) (st' := [.int 1, .int ((v1 >>> (v3 &&& 31)) &&& 1)]) (h2 := (83, I, R0 p)) (by rcases hq with rfl | rfl <;> rfl) ?_
      by_cases hc2 : ((v1 >>> (v3 &&& 31)) &&& 1) = 1
      · rw [if_pos hc2] at hg
        refine TT_ine_f (t := 30) rfl rfl hc2 ?_
        refine TT_go 4 (pc' := 27) (lv' := [(0, .ref q), (1, .int v1), (2, .int v2), (3, .int v3)]) (st' := [.int v3, .ref (q + 8), .int v2]) (h2 := (83, I, R0 p)) (by rcases hq with rfl | rfl <;> rfl) ?_
        by_cases hb3 : inB v3 8 = true
        rotate_left
        · rw [if_neg hb3] at hg; cases hg
        rw [if_pos hb3] at hg
        refine TT_iald (n := 8) rfl (by rcases hq with rfl | rfl <;> rfl) hb3 ?_
        obtain ⟨x4, hx4⟩ : ∃ x : Int32, x = (I ((q + 8)) (Int32.toNatClampNeg v3)) := ⟨_, rfl⟩
        replace hg := bnd_use hx4 hg
        refine TT_go 0 (pc' := 28) (lv' := [(0, .ref q), (1, .int v1), (2, .int v2), (3, .int v3)]) (st' := [.int x4, .int v2]) (h2 := (83, I, R0 p)) (by subst hx4; rcases hq with rfl | rfl <;> rfl) ?_
        obtain ⟨x5, hx5⟩ : ∃ x : Int32, x = ((v2 ||| x4)) := ⟨_, rfl⟩
        replace hg := bnd_use hx5 hg
        refine TT_go 2 (pc' := 30) (lv' := [(2, .int x5), (0, .ref q), (1, .int v1), (3, .int v3)]) (st' := []) (h2 := (83, I, R0 p)) (by subst hx5; rcases hq with rfl | rfl <;> rfl) ?_
        refine TT_sub (lv2 := [(0, .ref q), (1, .int v1), (2, .int x5), (3, .int v3)]) rfl rfl ⟨rfl, rfl, rfl, rfl, trivial⟩ ?_
        exact t_X2_tiedToSome_30 hq ih hg
      · rw [if_neg hc2] at hg
        refine TT_ine_t (t := 30) rfl rfl hc2 ?_
        refine TT_go 0 (pc' := 30) (lv' := [(0, .ref q), (1, .int v1), (2, .int v2), (3, .int v3)]) (st' := []) (h2 := (83, I, R0 p)) (by rcases hq with rfl | rfl <;> rfl) ?_
        refine TT_sub (lv2 := [(0, .ref q), (1, .int v1), (2, .int v2), (3, .int v3)]) rfl rfl ⟨rfl, rfl, rfl, rfl, trivial⟩ ?_
        exact t_X2_tiedToSome_30 hq ih hg
def g_X2_tiedToSome (n : Nat) (q : Nat) (a0 : Int32) (I : IH) : Option (Int32 × IH) :=
  g_X2_tiedToSome_4 q n a0 0 0 I
set_option maxRecDepth 20000 in
theorem t_X2_tiedToSome {q : Nat} (hq : q = 5 ∨ q = 18) {p : Nat} {n : Nat} {a0 : Int32} {I : IH} {w : Int32 × IH} (hg : g_X2_tiedToSome n q a0 I = some w) : TT none mt_X2_tiedToSome 0 (lv_args 0 [.ref q, .int a0]) [] (83, I, R0 p) (some (.int w.1)) (83, w.2, R0 p) := by
  unfold g_X2_tiedToSome at hg
  refine TT_go 4 (pc' := 4) (lv' := [(3, .int 0), (2, .int 0), (0, .ref q), (1, .int a0)]) (st' := []) (h2 := (83, I, R0 p)) (by rcases hq with rfl | rfl <;> rfl) ?_
  refine TT_sub (lv2 := [(0, .ref q), (1, .int a0), (2, .int 0), (3, .int 0)]) rfl rfl ⟨rfl, rfl, rfl, rfl, trivial⟩ ?_
  exact t_X2_tiedToSome_4 hq n a0 0 0 _ _ hg
def g_X2_bindTies_16 (q : Nat) (k2 : Int32 → IH → Option (IH)) : Nat → Int32 → Int32 → Int32 → IH → Option (IH)
  | 0, _, _, _, _ => none
  | n + 1, v1, v2, v3, I =>
    if (I q 0) ≤ v3 then
      if inB v1 8 = true then
        bnd (up2 I ((q + 9)) (Int32.toNatClampNeg v1) v2) fun J5 =>
        bnd (v1 + 1) fun x6 =>
        k2 x6 J5
      else none
    else
      match g_X2_tiedToSome n q v2 I with
      | none => none
      | some (r10, J9) =>
        bnd ((v2 ||| r10)) fun x11 =>
        bnd (v3 + 1) fun x12 =>
        g_X2_bindTies_16 q k2 n v1 x11 x12 J9
set_option maxRecDepth 20000 in
theorem t_X2_bindTies_16 {q : Nat} (hq : q = 5 ∨ q = 18) {p : Nat} {k2 : Int32 → IH → Option (IH)} (hk2 : ∀ (v1 : Int32) (I : IH) (w : IH), k2 v1 I = some w → TT none mt_X2_bindTies 2 [(0, .ref q), (1, .int v1)] [] (83, I, R0 p) none (83, w, R0 p)) : ∀ (n : Nat) (v1 : Int32) (v2 : Int32) (v3 : Int32) (I : IH) (w : IH), g_X2_bindTies_16 q k2 n v1 v2 v3 I = some w → TT none mt_X2_bindTies 16 [(0, .ref q), (1, .int v1), (2, .int v2), (3, .int v3)] [] (83, I, R0 p) none (83, w, R0 p) := by
  intro n
  induction n with
  | zero => intro v1 v2 v3 I w hg; cases hg
  | succ n ih =>
    intro v1 v2 v3 I w hg
    unfold g_X2_bindTies_16 at hg
    refine TT_go 3 (pc' := 21) (lv' := [(0, .ref q), (1, .int v1), (2, .int v2), (3, .int v3)]) (st' := [.int (I q 0), .int v3]) (h2 := (83, I, R0 p)) (by rcases hq with rfl | rfl <;> rfl) ?_
    by_cases hc3 : (I q 0) ≤ v3
    · rw [if_pos hc3] at hg
      refine TT_ige_t (t := 38) rfl rfl hc3 ?_
      refine TT_go 4 (pc' := 44) (lv' := [(0, .ref q), (1, .int v1), (2, .int v2), (3, .int v3)]) (st' := [.int v2, .int v1, .ref (q + 9)]) (h2 := (83, I, R0 p)) (by rcases hq with rfl | rfl <;> rfl) ?_
      by_cases hb4 : inB v1 8 = true
      rotate_left
      · rw [if_neg hb4] at hg; cases hg
      rw [if_pos hb4] at hg
      refine TT_iast (n := 8) rfl (by rcases hq with rfl | rfl <;> rfl) hb4 ?_
      obtain ⟨J5, hJ5⟩ : ∃ x : IH, x = (up2 I ((q + 9)) (Int32.toNatClampNeg v1) v2) := ⟨_, rfl⟩
      replace hg := bnd_use hJ5 hg
      refine TT_go 0 (pc' := 45) (lv' := [(0, .ref q), (1, .int v1), (2, .int v2), (3, .int v3)]) (st' := []) (h2 := (83, J5, R0 p)) (by subst hJ5; rcases hq with rfl | rfl <;> rfl) ?_
      obtain ⟨x6, hx6⟩ : ∃ x : Int32, x = (v1 + 1) := ⟨_, rfl⟩
      replace hg := bnd_use hx6 hg
      refine TT_go 1 (pc' := 48) (lv' := [(1, .int x6), (0, .ref q), (2, .int v2), (3, .int v3)]) (st' := []) (h2 := (83, J5, R0 p)) (by subst hx6; rcases hq with rfl | rfl <;> rfl) ?_
      refine TT_go 1 (pc' := 2) (lv' := [(1, .int x6), (0, .ref q), (2, .int v2), (3, .int v3)]) (st' := []) (h2 := (83, J5, R0 p)) (by rcases hq with rfl | rfl <;> rfl) ?_
      refine TT_sub (lv2 := [(0, .ref q), (1, .int x6)]) rfl rfl ⟨rfl, rfl, trivial⟩ ?_
      exact hk2 x6 _ _ hg
    · rw [if_neg hc3] at hg
      refine TT_ige_f (t := 38) rfl rfl hc3 ?_
      refine TT_go 3 (pc' := 27) (lv' := [(0, .ref q), (1, .int v1), (2, .int v2), (3, .int v3)]) (st' := [.int v2, .ref q, .int v2]) (h2 := (83, I, R0 p)) (by rcases hq with rfl | rfl <;> rfl) ?_
      cases hq7 : g_X2_tiedToSome n q v2 I with
      | none => rw [hq7] at hg; cases hg
      | some w8 =>
        obtain ⟨r10, J9⟩ := w8
        rw [hq7] at hg
        dsimp only at hg
        refine TT_call (me' := mt_X2_tiedToSome) (as := [.ref q, .int v2]) (rest := [.int v2]) (r1 := some (.int r10)) (h1 := (83, J9, R0 p)) rfl rfl (by rcases hq with rfl | rfl <;> rfl) (t_X2_tiedToSome hq hq7) ?_
        obtain ⟨x11, hx11⟩ : ∃ x : Int32, x = ((v2 ||| r10)) := ⟨_, rfl⟩
        replace hg := bnd_use hx11 hg
        refine TT_go 2 (pc' := 32) (lv' := [(2, .int x11), (0, .ref q), (1, .int v1), (3, .int v3)]) (st' := []) (h2 := (83, J9, R0 p)) (by subst hx11; rcases hq with rfl | rfl <;> rfl) ?_
        obtain ⟨x12, hx12⟩ : ∃ x : Int32, x = (v3 + 1) := ⟨_, rfl⟩
        replace hg := bnd_use hx12 hg
        refine TT_go 1 (pc' := 35) (lv' := [(3, .int x12), (2, .int x11), (0, .ref q), (1, .int v1)]) (st' := []) (h2 := (83, J9, R0 p)) (by subst hx12; rcases hq with rfl | rfl <;> rfl) ?_
        refine TT_go 1 (pc' := 16) (lv' := [(3, .int x12), (2, .int x11), (0, .ref q), (1, .int v1)]) (st' := []) (h2 := (83, J9, R0 p)) (by rcases hq with rfl | rfl <;> rfl) ?_
        refine TT_sub (lv2 := [(0, .ref q), (1, .int v1), (2, .int x11), (3, .int x12)]) rfl rfl ⟨rfl, rfl, rfl, rfl, trivial⟩ ?_
        exact ih v1 x11 x12 _ _ hg
def g_X2_bindTies_2 (q : Nat) : Nat → Int32 → IH → Option (IH)
  | 0, _, _ => none
  | n + 1, v1, I =>
    if (I q 0) ≤ v1 then
      some I
    else
      bnd ((1 <<< (v1 &&& 31))) fun x2 =>
      g_X2_bindTies_16 q (g_X2_bindTies_2 q n) n v1 x2 1 I
set_option maxRecDepth 20000 in
theorem t_X2_bindTies_2 {q : Nat} (hq : q = 5 ∨ q = 18) {p : Nat} : ∀ (n : Nat) (v1 : Int32) (I : IH) (w : IH), g_X2_bindTies_2 q n v1 I = some w → TT none mt_X2_bindTies 2 [(0, .ref q), (1, .int v1)] [] (83, I, R0 p) none (83, w, R0 p) := by
  intro n
  induction n with
  | zero => intro v1 I w hg; cases hg
  | succ n ih =>
    intro v1 I w hg
    unfold g_X2_bindTies_2 at hg
    refine TT_go 3 (pc' := 7) (lv' := [(0, .ref q), (1, .int v1)]) (st' := [.int (I q 0), .int v1]) (h2 := (83, I, R0 p)) (by rcases hq with rfl | rfl <;> rfl) ?_
    by_cases hc1 : (I q 0) ≤ v1
    · rw [if_pos hc1] at hg
      refine TT_ige_t (t := 51) rfl rfl hc1 ?_
      refine TT_go 0 (pc' := 51) (lv' := [(0, .ref q), (1, .int v1)]) (st' := []) (h2 := (83, I, R0 p)) (by rcases hq with rfl | rfl <;> rfl) ?_
      have hg := Option.some.inj hg
      subst hg
      exact TT_ret rfl rfl
    · rw [if_neg hc1] at hg
      refine TT_ige_f (t := 51) rfl rfl hc1 ?_
      obtain ⟨x2, hx2⟩ : ∃ x : Int32, x = ((1 <<< (v1 &&& 31))) := ⟨_, rfl⟩
      replace hg := bnd_use hx2 hg
      refine TT_go 4 (pc' := 14) (lv' := [(2, .int x2), (0, .ref q), (1, .int v1)]) (st' := []) (h2 := (83, I, R0 p)) (by subst hx2; rcases hq with rfl | rfl <;> rfl) ?_
      refine TT_go 2 (pc' := 16) (lv' := [(3, .int 1), (2, .int x2), (0, .ref q), (1, .int v1)]) (st' := []) (h2 := (83, I, R0 p)) (by rcases hq with rfl | rfl <;> rfl) ?_
      refine TT_sub (lv2 := [(0, .ref q), (1, .int v1), (2, .int x2), (3, .int 1)]) rfl rfl ⟨rfl, rfl, rfl, rfl, trivial⟩ ?_
      exact t_X2_bindTies_16 hq ih n v1 x2 1 _ _ hg
def g_X2_bindTies (n : Nat) (q : Nat) (I : IH) : Option (IH) :=
  g_X2_bindTies_2 q n 0 I
set_option maxRecDepth 20000 in
theorem t_X2_bindTies {q : Nat} (hq : q = 5 ∨ q = 18) {p : Nat} {n : Nat} {I : IH} {w : IH} (hg : g_X2_bindTies n q I = some w) : TT none mt_X2_bindTies 0 (lv_args 0 [.ref q]) [] (83, I, R0 p) none (83, w, R0 p) := by
  unfold g_X2_bindTies at hg
  refine TT_go 2 (pc' := 2) (lv' := [(1, .int 0), (0, .ref q)]) (st' := []) (h2 := (83, I, R0 p)) (by rcases hq with rfl | rfl <;> rfl) ?_
  refine TT_sub (lv2 := [(0, .ref q), (1, .int 0)]) rfl rfl ⟨rfl, rfl, trivial⟩ ?_
  exact t_X2_bindTies_2 hq n 0 _ _ hg
def g_X7_at (n : Nat) (a0 : Int32) (I : IH) : Option (Int32 × IH) :=
  match g_X8_within n a0 0 ((I 1 1) - 1) I with
  | none => none
  | some (r4, J3) =>
    if r4 = 0 then
      some ((-1), J3)
    else
      if inB a0 400 = true then
        bnd (J3 2 (Int32.toNatClampNeg a0)) fun x7 =>
        some ((x7 &&& 255), J3)
      else none
set_option maxRecDepth 20000 in
theorem t_X7_at {p : Nat} {n : Nat} {a0 : Int32} {I : IH} {w : Int32 × IH} (hg : g_X7_at n a0 I = some w) : TT none mt_X7_at 0 (lv_args 0 [.ref 1, .int a0]) [] (83, I, R0 p) (some (.int w.1)) (83, w.2, R0 p) := by
  unfold g_X7_at at hg
  refine TT_go 6 (pc' := 8) (lv' := [(0, .ref 1), (1, .int a0)]) (st' := [.int ((I 1 1) - 1), .int 0, .int a0]) (h2 := (83, I, R0 p)) (by rfl) ?_
  cases hq1 : g_X8_within n a0 0 ((I 1 1) - 1) I with
  | none => rw [hq1] at hg; cases hg
  | some w2 =>
    obtain ⟨r4, J3⟩ := w2
    rw [hq1] at hg
    dsimp only at hg
    refine TT_call (me' := mt_X8_within) (as := [.int a0, .int 0, .int ((I 1 1) - 1)]) (rest := []) (r1 := some (.int r4)) (h1 := (83, J3, R0 p)) rfl rfl (by rfl) (t_X8_within hq1) ?_
    refine TT_go 0 (pc' := 11) (lv' := [(0, .ref 1), (1, .int a0)]) (st' := [.int r4]) (h2 := (83, J3, R0 p)) (by rfl) ?_
    by_cases hc5 : r4 = 0
    · rw [if_pos hc5] at hg
      refine TT_zeq_t (t := 27) rfl rfl hc5 ?_
      refine TT_go 1 (pc' := 28) (lv' := [(0, .ref 1), (1, .int a0)]) (st' := [.int (-1)]) (h2 := (83, J3, R0 p)) (by rfl) ?_
      have hg := Option.some.inj hg
      subst hg
      exact TT_ret rfl rfl
    · rw [if_neg hc5] at hg
      refine TT_zeq_f (t := 27) rfl rfl hc5 ?_
      refine TT_go 3 (pc' := 19) (lv' := [(0, .ref 1), (1, .int a0)]) (st' := [.int a0, .ref 2]) (h2 := (83, J3, R0 p)) (by rfl) ?_
      by_cases hb6 : inB a0 400 = true
      rotate_left
      · rw [if_neg hb6] at hg; cases hg
      rw [if_pos hb6] at hg
      refine TT_bald (n := 400) rfl (by rfl) hb6 ?_
      obtain ⟨x7, hx7⟩ : ∃ x : Int32, x = (J3 2 (Int32.toNatClampNeg a0)) := ⟨_, rfl⟩
      replace hg := bnd_use hx7 hg
      refine TT_go 0 (pc' := 20) (lv' := [(0, .ref 1), (1, .int a0)]) (st' := [.int x7]) (h2 := (83, J3, R0 p)) (by subst hx7; rfl) ?_
      refine TT_go 3 (pc' := 28) (lv' := [(0, .ref 1), (1, .int a0)]) (st' := [.int (x7 &&& 255)]) (h2 := (83, J3, R0 p)) (by rfl) ?_
      have hg := Option.some.inj hg
      subst hg
      exact TT_ret rfl rfl
def g_X3_numbersOf (n : Nat) (a0 : Int32) (I : IH) : Option (Int32 × IH) :=
  if a0 = 99 then
    some (3, I)
  else if a0 = 103 then
    some (6, I)
  else if a0 = 112 then
    some (2, I)
  else if a0 = 114 then
    some (2, I)
  else if a0 = 121 then
    some (2, I)
  else
    some (0, I)
set_option maxRecDepth 20000 in
theorem t_X3_numbersOf {p : Nat} {n : Nat} {a0 : Int32} {I : IH} {w : Int32 × IH} (hg : g_X3_numbersOf n a0 I = some w) : TT none mt_X3_numbersOf 0 (lv_args 0 [.int a0]) [] (83, I, R0 p) (some (.int w.1)) (83, w.2, R0 p) := by
  unfold g_X3_numbersOf at hg
  refine TT_go 1 (pc' := 1) (lv' := [(0, .int a0)]) (st' := [.int a0]) (h2 := (83, I, R0 p)) (by rfl) ?_
  by_cases hc1 : a0 = 99
  · rw [if_pos hc1] at hg
    refine TT_lsw (t := 55) (off := 54) rfl (by decide) (by rw [hc1]; rfl) rfl ?_
    refine TT_go 1 (pc' := 56) (lv' := [(0, .int a0)]) (st' := [.int 3]) (h2 := (83, I, R0 p)) (by rfl) ?_
    have hg := Option.some.inj hg
    subst hg
    exact TT_ret rfl rfl
  rw [if_neg hc1] at hg
  by_cases hc2 : a0 = 103
  · rw [if_pos hc2] at hg
    refine TT_lsw (t := 52) (off := 51) rfl (by decide) (by rw [hc2]; rfl) rfl ?_
    refine TT_go 1 (pc' := 54) (lv' := [(0, .int a0)]) (st' := [.int 6]) (h2 := (83, I, R0 p)) (by rfl) ?_
    have hg := Option.some.inj hg
    subst hg
    exact TT_ret rfl rfl
  rw [if_neg hc2] at hg
  by_cases hc3 : a0 = 112
  · rw [if_pos hc3] at hg
    refine TT_lsw (t := 57) (off := 56) rfl (by decide) (by rw [hc3]; rfl) rfl ?_
    refine TT_go 1 (pc' := 58) (lv' := [(0, .int a0)]) (st' := [.int 2]) (h2 := (83, I, R0 p)) (by rfl) ?_
    have hg := Option.some.inj hg
    subst hg
    exact TT_ret rfl rfl
  rw [if_neg hc3] at hg
  by_cases hc4 : a0 = 114
  · rw [if_pos hc4] at hg
    refine TT_lsw (t := 57) (off := 56) rfl (by decide) (by rw [hc4]; rfl) rfl ?_
    refine TT_go 1 (pc' := 58) (lv' := [(0, .int a0)]) (st' := [.int 2]) (h2 := (83, I, R0 p)) (by rfl) ?_
    have hg := Option.some.inj hg
    subst hg
    exact TT_ret rfl rfl
  rw [if_neg hc4] at hg
  by_cases hc5 : a0 = 121
  · rw [if_pos hc5] at hg
    refine TT_lsw (t := 57) (off := 56) rfl (by decide) (by rw [hc5]; rfl) rfl ?_
    refine TT_go 1 (pc' := 58) (lv' := [(0, .int a0)]) (st' := [.int 2]) (h2 := (83, I, R0 p)) (by rfl) ?_
    have hg := Option.some.inj hg
    subst hg
    exact TT_ret rfl rfl
  rw [if_neg hc5] at hg
  refine TT_lsw (t := 59) (off := 58) rfl (by decide) (by rw [lv_osw (k := 99) hc1 (by decide), lv_osw (k := 103) hc2 (by decide), lv_osw (k := 112) hc3 (by decide), lv_osw (k := 114) hc4 (by decide), lv_osw (k := 121) hc5 (by decide)]; rfl) rfl ?_
  refine TT_go 1 (pc' := 60) (lv' := [(0, .int a0)]) (st' := [.int 0]) (h2 := (83, I, R0 p)) (by rfl) ?_
  have hg := Option.some.inj hg
  subst hg
  exact TT_ret rfl rfl
def g_X3_readNumber_62 (n : Nat) (v2 : Int32) (v3 : Int32) (v4 : Int32) (I : IH) : Option (Int32 × IH) :=
  if inB v2 6 = true then
    bnd (up2 I 4 (Int32.toNatClampNeg v2) v3) fun J3 =>
    if v4 ≤ 0 then
      some (0, J3)
    else
      some (1, J3)
  else none
set_option maxRecDepth 20000 in
theorem t_X3_readNumber_62 {p : Nat} {n : Nat} {v2 : Int32} {v3 : Int32} {v4 : Int32} {I : IH} {w : Int32 × IH} (hg : g_X3_readNumber_62 n v2 v3 v4 I = some w) : TT none mt_X3_readNumber 62 [(0, .ref 3), (2, .int v2), (3, .int v3), (4, .int v4)] [] (83, I, R0 p) (some (.int w.1)) (83, w.2, R0 p) := by
  unfold g_X3_readNumber_62 at hg
  refine TT_go 4 (pc' := 68) (lv' := [(0, .ref 3), (2, .int v2), (3, .int v3), (4, .int v4)]) (st' := [.int v3, .int v2, .ref 4]) (h2 := (83, I, R0 p)) (by rfl) ?_
  by_cases hb2 : inB v2 6 = true
  rotate_left
  · rw [if_neg hb2] at hg; cases hg
  rw [if_pos hb2] at hg
  refine TT_iast (n := 6) rfl (by rfl) hb2 ?_
  obtain ⟨J3, hJ3⟩ : ∃ x : IH, x = (up2 I 4 (Int32.toNatClampNeg v2) v3) := ⟨_, rfl⟩
  replace hg := bnd_use hJ3 hg
  refine TT_go 0 (pc' := 69) (lv' := [(0, .ref 3), (2, .int v2), (3, .int v3), (4, .int v4)]) (st' := []) (h2 := (83, J3, R0 p)) (by subst hJ3; rfl) ?_
  refine TT_go 1 (pc' := 71) (lv' := [(0, .ref 3), (2, .int v2), (3, .int v3), (4, .int v4)]) (st' := [.int v4]) (h2 := (83, J3, R0 p)) (by rfl) ?_
  by_cases hc4 : v4 ≤ 0
  · rw [if_pos hc4] at hg
    refine TT_zle_t (t := 78) rfl rfl hc4 ?_
    refine TT_go 1 (pc' := 79) (lv' := [(0, .ref 3), (2, .int v2), (3, .int v3), (4, .int v4)]) (st' := [.int 0]) (h2 := (83, J3, R0 p)) (by rfl) ?_
    have hg := Option.some.inj hg
    subst hg
    exact TT_ret rfl rfl
  · rw [if_neg hc4] at hg
    refine TT_zle_f (t := 78) rfl rfl hc4 ?_
    refine TT_go 2 (pc' := 79) (lv' := [(0, .ref 3), (2, .int v2), (3, .int v3), (4, .int v4)]) (st' := [.int 1]) (h2 := (83, J3, R0 p)) (by rfl) ?_
    have hg := Option.some.inj hg
    subst hg
    exact TT_ret rfl rfl
def g_X3_readNumber_5 : Nat → Int32 → Int32 → Int32 → IH → Option (Int32 × IH)
  | 0, _, _, _, _ => none
  | n + 1, v2, v3, v4, I =>
    if 3 ≤ v4 then
      g_X3_readNumber_62 n v2 v3 v4 I
    else
      match g_X7_at n (I 3 1) I with
      | none => none
      | some (r8, J7) =>
        match g_X8_within n r8 48 57 J7 with
        | none => none
        | some (r12, J11) =>
          if r12 = 0 then
            g_X3_readNumber_62 n v2 v3 v4 J11
          else
            match g_X7_at n (J11 3 1) J11 with
            | none => none
            | some (r17, J16) =>
              bnd ((((10 * v3) + r17) - 48)) fun x18 =>
              bnd (up2 J16 3 1 ((J16 3 1) + 1)) fun J19 =>
              bnd (v4 + 1) fun x20 =>
              g_X3_readNumber_5 n v2 x18 x20 J19
set_option maxRecDepth 20000 in
theorem t_X3_readNumber_5 {p : Nat} : ∀ (n : Nat) (v2 : Int32) (v3 : Int32) (v4 : Int32) (I : IH) (w : Int32 × IH), g_X3_readNumber_5 n v2 v3 v4 I = some w → TT none mt_X3_readNumber 5 [(0, .ref 3), (1, .ref 1), (2, .int v2), (3, .int v3), (4, .int v4)] [] (83, I, R0 p) (some (.int w.1)) (83, w.2, R0 p) := by
  intro n
  induction n with
  | zero => intro v2 v3 v4 I w hg; cases hg
  | succ n ih =>
    intro v2 v3 v4 I w hg
    unfold g_X3_readNumber_5 at hg
    refine TT_go 2 (pc' := 8) (lv' := [(0, .ref 3), (1, .ref 1), (2, .int v2), (3, .int v3), (4, .int v4)]) (st' := [.int 3, .int v4]) (h2 := (83, I, R0 p)) (by rfl) ?_
    by_cases hc1 : 3 ≤ v4
    · rw [if_pos hc1] at hg
      refine TT_ige_t (t := 62) rfl rfl hc1 ?_
      refine TT_go 0 (pc' := 62) (lv' := [(0, .ref 3), (1, .ref 1), (2, .int v2), (3, .int v3), (4, .int v4)]) (st' := []) (h2 := (83, I, R0 p)) (by rfl) ?_
      refine TT_sub (lv2 := [(0, .ref 3), (2, .int v2), (3, .int v3), (4, .int v4)]) rfl rfl ⟨rfl, rfl, rfl, rfl, trivial⟩ ?_
      exact t_X3_readNumber_62 hg
    · rw [if_neg hc1] at hg
      refine TT_ige_f (t := 62) rfl rfl hc1 ?_
      refine TT_go 3 (pc' := 16) (lv' := [(0, .ref 3), (1, .ref 1), (2, .int v2), (3, .int v3), (4, .int v4)]) (st' := [.int (I 3 1), .ref 1]) (h2 := (83, I, R0 p)) (by rfl) ?_
      cases hq5 : g_X7_at n (I 3 1) I with
      | none => rw [hq5] at hg; cases hg
      | some w6 =>
        obtain ⟨r8, J7⟩ := w6
        rw [hq5] at hg
        dsimp only at hg
        refine TT_call (me' := mt_X7_at) (as := [.ref 1, .int (I 3 1)]) (rest := []) (r1 := some (.int r8)) (h1 := (83, J7, R0 p)) rfl rfl (by rfl) (t_X7_at hq5) ?_
        refine TT_go 2 (pc' := 23) (lv' := [(0, .ref 3), (1, .ref 1), (2, .int v2), (3, .int v3), (4, .int v4)]) (st' := [.int 57, .int 48, .int r8]) (h2 := (83, J7, R0 p)) (by rfl) ?_
        cases hq9 : g_X8_within n r8 48 57 J7 with
        | none => rw [hq9] at hg; cases hg
        | some w10 =>
          obtain ⟨r12, J11⟩ := w10
          rw [hq9] at hg
          dsimp only at hg
          refine TT_call (me' := mt_X8_within) (as := [.int r8, .int 48, .int 57]) (rest := []) (r1 := some (.int r12)) (h1 := (83, J11, R0 p)) rfl rfl (by rfl) (t_X8_within hq9) ?_
          refine TT_go 0 (pc' := 26) (lv' := [(0, .ref 3), (1, .ref 1), (2, .int v2), (3, .int v3), (4, .int v4)]) (st' := [.int r12]) (h2 := (83, J11, R0 p)) (by rfl) ?_
          by_cases hc13 : r12 = 0
          · rw [if_pos hc13] at hg
            refine TT_zeq_t (t := 62) rfl rfl hc13 ?_
            refine TT_go 0 (pc' := 62) (lv' := [(0, .ref 3), (1, .ref 1), (2, .int v2), (3, .int v3), (4, .int v4)]) (st' := []) (h2 := (83, J11, R0 p)) (by rfl) ?_
            refine TT_sub (lv2 := [(0, .ref 3), (2, .int v2), (3, .int v3), (4, .int v4)]) rfl rfl ⟨rfl, rfl, rfl, rfl, trivial⟩ ?_
            exact t_X3_readNumber_62 hg
          · rw [if_neg hc13] at hg
            refine TT_zeq_f (t := 62) rfl rfl hc13 ?_
            refine TT_go 6 (pc' := 38) (lv' := [(0, .ref 3), (1, .ref 1), (2, .int v2), (3, .int v3), (4, .int v4)]) (st' := [.int (J11 3 1), .ref 1, .int (10 * v3)]) (h2 := (83, J11, R0 p)) (by rfl) ?_
            cases hq14 : g_X7_at n (J11 3 1) J11 with
            | none => rw [hq14] at hg; cases hg
            | some w15 =>
              obtain ⟨r17, J16⟩ := w15
              rw [hq14] at hg
              dsimp only at hg
              refine TT_call (me' := mt_X7_at) (as := [.ref 1, .int (J11 3 1)]) (rest := [.int (10 * v3)]) (r1 := some (.int r17)) (h1 := (83, J16, R0 p)) rfl rfl (by rfl) (t_X7_at hq14) ?_
              obtain ⟨x18, hx18⟩ : ∃ x : Int32, x = ((((10 * v3) + r17) - 48)) := ⟨_, rfl⟩
              replace hg := bnd_use hx18 hg
              refine TT_go 4 (pc' := 46) (lv' := [(3, .int x18), (0, .ref 3), (1, .ref 1), (2, .int v2), (4, .int v4)]) (st' := []) (h2 := (83, J16, R0 p)) (by subst hx18; rfl) ?_
              obtain ⟨J19, hJ19⟩ : ∃ x : IH, x = (up2 J16 3 1 ((J16 3 1) + 1)) := ⟨_, rfl⟩
              replace hg := bnd_use hJ19 hg
              refine TT_go 6 (pc' := 56) (lv' := [(3, .int x18), (0, .ref 3), (1, .ref 1), (2, .int v2), (4, .int v4)]) (st' := []) (h2 := (83, J19, R0 p)) (by subst hJ19; rfl) ?_
              obtain ⟨x20, hx20⟩ : ∃ x : Int32, x = (v4 + 1) := ⟨_, rfl⟩
              replace hg := bnd_use hx20 hg
              refine TT_go 1 (pc' := 59) (lv' := [(4, .int x20), (3, .int x18), (0, .ref 3), (1, .ref 1), (2, .int v2)]) (st' := []) (h2 := (83, J19, R0 p)) (by subst hx20; rfl) ?_
              refine TT_go 1 (pc' := 5) (lv' := [(4, .int x20), (3, .int x18), (0, .ref 3), (1, .ref 1), (2, .int v2)]) (st' := []) (h2 := (83, J19, R0 p)) (by rfl) ?_
              refine TT_sub (lv2 := [(0, .ref 3), (1, .ref 1), (2, .int v2), (3, .int x18), (4, .int x20)]) rfl rfl ⟨rfl, rfl, rfl, rfl, rfl, trivial⟩ ?_
              exact ih v2 x18 x20 _ _ hg
def g_X3_readNumber (n : Nat) (a1 : Int32) (I : IH) : Option (Int32 × IH) :=
  g_X3_readNumber_5 n a1 0 0 I
set_option maxRecDepth 20000 in
theorem t_X3_readNumber {p : Nat} {n : Nat} {a1 : Int32} {I : IH} {w : Int32 × IH} (hg : g_X3_readNumber n a1 I = some w) : TT none mt_X3_readNumber 0 (lv_args 0 [.ref 3, .ref 1, .int a1]) [] (83, I, R0 p) (some (.int w.1)) (83, w.2, R0 p) := by
  unfold g_X3_readNumber at hg
  refine TT_go 4 (pc' := 5) (lv' := [(4, .int 0), (3, .int 0), (0, .ref 3), (1, .ref 1), (2, .int a1)]) (st' := []) (h2 := (83, I, R0 p)) (by rfl) ?_
  refine TT_sub (lv2 := [(0, .ref 3), (1, .ref 1), (2, .int a1), (3, .int 0), (4, .int 0)]) rfl rfl ⟨rfl, rfl, rfl, rfl, rfl, trivial⟩ ?_
  exact t_X3_readNumber_5 n a1 0 0 _ _ hg
def g_X3_addItem (n : Nat) (q : Nat) (a0 : Int32) (I : IH) : Option (Int32 × IH) :=
  if a0 = 99 then
    bnd (I 4 0) fun x2 =>
    bnd (I 4 1) fun x3 =>
    bnd (I 4 2) fun x4 =>
    match g_X2_addClerk n q x2 x3 x4 I with
    | none => none
    | some (r8, J7) =>
      if r8 = 0 ∨ r8 = 1 then some (r8, J7) else none
  else if a0 = 103 then
    bnd (I 4 0) fun x11 =>
    bnd (I 4 1) fun x12 =>
    bnd (I 4 2) fun x13 =>
    bnd (I 4 3) fun x14 =>
    bnd (I 4 4) fun x15 =>
    bnd (I 4 5) fun x16 =>
    match g_X2_addGlass n q x11 x12 x13 x14 x15 x16 I with
    | none => none
    | some (r20, J19) =>
      if r20 = 0 ∨ r20 = 1 then some (r20, J19) else none
  else if a0 = 112 then
    bnd (I 4 0) fun x23 =>
    bnd (I 4 1) fun x24 =>
    match g_X2_setPartner n q x23 x24 I with
    | none => none
    | some (r28, J27) =>
      if r28 = 0 ∨ r28 = 1 then some (r28, J27) else none
  else if a0 = 114 then
    bnd (I 4 0) fun x31 =>
    bnd (I 4 1) fun x32 =>
    match g_X2_setRisks n q x31 x32 I with
    | none => none
    | some (r36, J35) =>
      if r36 = 0 ∨ r36 = 1 then some (r36, J35) else none
  else if a0 = 121 then
    bnd (I 4 0) fun x39 =>
    bnd (I 4 1) fun x40 =>
    match g_X2_addTie n q x39 x40 I with
    | none => none
    | some (r44, J43) =>
      if r44 = 0 ∨ r44 = 1 then some (r44, J43) else none
  else
    some (0, I)
set_option maxRecDepth 20000 in
theorem t_X3_addItem {q : Nat} (hq : q = 5 ∨ q = 18) {p : Nat} {n : Nat} {a0 : Int32} {I : IH} {w : Int32 × IH} (hg : g_X3_addItem n q a0 I = some w) : TT none mt_X3_addItem 0 (lv_args 0 [.ref 3, .int a0, .ref q]) [] (83, I, R0 p) (some (.int w.1)) (83, w.2, R0 p) := by
  unfold g_X3_addItem at hg
  refine TT_go 1 (pc' := 1) (lv' := [(0, .ref 3), (1, .int a0), (2, .ref q)]) (st' := [.int a0]) (h2 := (83, I, R0 p)) (by rcases hq with rfl | rfl <;> rfl) ?_
  by_cases hc1 : a0 = 99
  · rw [if_pos hc1] at hg
    refine TT_lsw (t := 110) (off := 109) rfl (by decide) (by rw [hc1]; rfl) rfl ?_
    obtain ⟨x2, hx2⟩ : ∃ x : Int32, x = (I 4 0) := ⟨_, rfl⟩
    replace hg := bnd_use hx2 hg
    refine TT_go 5 (pc' := 117) (lv' := [(0, .ref 3), (1, .int a0), (2, .ref q)]) (st' := [.int x2, .ref q]) (h2 := (83, I, R0 p)) (by subst hx2; rcases hq with rfl | rfl <;> rfl) ?_
    obtain ⟨x3, hx3⟩ : ∃ x : Int32, x = (I 4 1) := ⟨_, rfl⟩
    replace hg := bnd_use hx3 hg
    refine TT_go 4 (pc' := 123) (lv' := [(0, .ref 3), (1, .int a0), (2, .ref q)]) (st' := [.int x3, .int x2, .ref q]) (h2 := (83, I, R0 p)) (by subst hx3; rcases hq with rfl | rfl <;> rfl) ?_
    obtain ⟨x4, hx4⟩ : ∃ x : Int32, x = (I 4 2) := ⟨_, rfl⟩
    replace hg := bnd_use hx4 hg
    refine TT_go 4 (pc' := 129) (lv' := [(0, .ref 3), (1, .int a0), (2, .ref q)]) (st' := [.int x4, .int x3, .int x2, .ref q]) (h2 := (83, I, R0 p)) (by subst hx4; rcases hq with rfl | rfl <;> rfl) ?_
    cases hq5 : g_X2_addClerk n q x2 x3 x4 I with
    | none => rw [hq5] at hg; cases hg
    | some w6 =>
      obtain ⟨r8, J7⟩ := w6
      rw [hq5] at hg
      dsimp only at hg
      refine TT_call (me' := mt_X2_addClerk) (as := [.ref q, .int x2, .int x3, .int x4]) (rest := []) (r1 := some (.int r8)) (h1 := (83, J7, R0 p)) rfl rfl (by rcases hq with rfl | rfl <;> rfl) (t_X2_addClerk hq hq5) ?_
      refine TT_go 0 (pc' := 132) (lv' := [(0, .ref 3), (1, .int a0), (2, .ref q)]) (st' := [.int r8]) (h2 := (83, J7, R0 p)) (by rcases hq with rfl | rfl <;> rfl) ?_
      by_cases hc9 : r8 = 0 ∨ r8 = 1
      rotate_left
      · rw [if_neg hc9] at hg; cases hg
      rw [if_pos hc9] at hg
      have hg := Option.some.inj hg
      subst hg
      exact TT_ret rfl (if_pos hc9)
  rw [if_neg hc1] at hg
  by_cases hc10 : a0 = 103
  · rw [if_pos hc10] at hg
    refine TT_lsw (t := 52) (off := 51) rfl (by decide) (by rw [hc10]; rfl) rfl ?_
    obtain ⟨x11, hx11⟩ : ∃ x : Int32, x = (I 4 0) := ⟨_, rfl⟩
    replace hg := bnd_use hx11 hg
    refine TT_go 5 (pc' := 59) (lv' := [(0, .ref 3), (1, .int a0), (2, .ref q)]) (st' := [.int x11, .ref q]) (h2 := (83, I, R0 p)) (by subst hx11; rcases hq with rfl | rfl <;> rfl) ?_
    obtain ⟨x12, hx12⟩ : ∃ x : Int32, x = (I 4 1) := ⟨_, rfl⟩
    replace hg := bnd_use hx12 hg
    refine TT_go 4 (pc' := 65) (lv' := [(0, .ref 3), (1, .int a0), (2, .ref q)]) (st' := [.int x12, .int x11, .ref q]) (h2 := (83, I, R0 p)) (by subst hx12; rcases hq with rfl | rfl <;> rfl) ?_
    obtain ⟨x13, hx13⟩ : ∃ x : Int32, x = (I 4 2) := ⟨_, rfl⟩
    replace hg := bnd_use hx13 hg
    refine TT_go 4 (pc' := 71) (lv' := [(0, .ref 3), (1, .int a0), (2, .ref q)]) (st' := [.int x13, .int x12, .int x11, .ref q]) (h2 := (83, I, R0 p)) (by subst hx13; rcases hq with rfl | rfl <;> rfl) ?_
    obtain ⟨x14, hx14⟩ : ∃ x : Int32, x = (I 4 3) := ⟨_, rfl⟩
    replace hg := bnd_use hx14 hg
    refine TT_go 4 (pc' := 77) (lv' := [(0, .ref 3), (1, .int a0), (2, .ref q)]) (st' := [.int x14, .int x13, .int x12, .int x11, .ref q]) (h2 := (83, I, R0 p)) (by subst hx14; rcases hq with rfl | rfl <;> rfl) ?_
    obtain ⟨x15, hx15⟩ : ∃ x : Int32, x = (I 4 4) := ⟨_, rfl⟩
    replace hg := bnd_use hx15 hg
    refine TT_go 4 (pc' := 83) (lv' := [(0, .ref 3), (1, .int a0), (2, .ref q)]) (st' := [.int x15, .int x14, .int x13, .int x12, .int x11, .ref q]) (h2 := (83, I, R0 p)) (by subst hx15; rcases hq with rfl | rfl <;> rfl) ?_
    obtain ⟨x16, hx16⟩ : ∃ x : Int32, x = (I 4 5) := ⟨_, rfl⟩
    replace hg := bnd_use hx16 hg
    refine TT_go 4 (pc' := 89) (lv' := [(0, .ref 3), (1, .int a0), (2, .ref q)]) (st' := [.int x16, .int x15, .int x14, .int x13, .int x12, .int x11, .ref q]) (h2 := (83, I, R0 p)) (by subst hx16; rcases hq with rfl | rfl <;> rfl) ?_
    cases hq17 : g_X2_addGlass n q x11 x12 x13 x14 x15 x16 I with
    | none => rw [hq17] at hg; cases hg
    | some w18 =>
      obtain ⟨r20, J19⟩ := w18
      rw [hq17] at hg
      dsimp only at hg
      refine TT_call (me' := mt_X2_addGlass) (as := [.ref q, .int x11, .int x12, .int x13, .int x14, .int x15, .int x16]) (rest := []) (r1 := some (.int r20)) (h1 := (83, J19, R0 p)) rfl rfl (by rcases hq with rfl | rfl <;> rfl) (t_X2_addGlass hq hq17) ?_
      refine TT_go 0 (pc' := 92) (lv' := [(0, .ref 3), (1, .int a0), (2, .ref q)]) (st' := [.int r20]) (h2 := (83, J19, R0 p)) (by rcases hq with rfl | rfl <;> rfl) ?_
      by_cases hc21 : r20 = 0 ∨ r20 = 1
      rotate_left
      · rw [if_neg hc21] at hg; cases hg
      rw [if_pos hc21] at hg
      have hg := Option.some.inj hg
      subst hg
      exact TT_ret rfl (if_pos hc21)
  rw [if_neg hc10] at hg
  by_cases hc22 : a0 = 112
  · rw [if_pos hc22] at hg
    refine TT_lsw (t := 133) (off := 132) rfl (by decide) (by rw [hc22]; rfl) rfl ?_
    obtain ⟨x23, hx23⟩ : ∃ x : Int32, x = (I 4 0) := ⟨_, rfl⟩
    replace hg := bnd_use hx23 hg
    refine TT_go 5 (pc' := 140) (lv' := [(0, .ref 3), (1, .int a0), (2, .ref q)]) (st' := [.int x23, .ref q]) (h2 := (83, I, R0 p)) (by subst hx23; rcases hq with rfl | rfl <;> rfl) ?_
    obtain ⟨x24, hx24⟩ : ∃ x : Int32, x = (I 4 1) := ⟨_, rfl⟩
    replace hg := bnd_use hx24 hg
    refine TT_go 4 (pc' := 146) (lv' := [(0, .ref 3), (1, .int a0), (2, .ref q)]) (st' := [.int x24, .int x23, .ref q]) (h2 := (83, I, R0 p)) (by subst hx24; rcases hq with rfl | rfl <;> rfl) ?_
    cases hq25 : g_X2_setPartner n q x23 x24 I with
    | none => rw [hq25] at hg; cases hg
    | some w26 =>
      obtain ⟨r28, J27⟩ := w26
      rw [hq25] at hg
      dsimp only at hg
      refine TT_call (me' := mt_X2_setPartner) (as := [.ref q, .int x23, .int x24]) (rest := []) (r1 := some (.int r28)) (h1 := (83, J27, R0 p)) rfl rfl (by rcases hq with rfl | rfl <;> rfl) (t_X2_setPartner hq hq25) ?_
      refine TT_go 0 (pc' := 149) (lv' := [(0, .ref 3), (1, .int a0), (2, .ref q)]) (st' := [.int r28]) (h2 := (83, J27, R0 p)) (by rcases hq with rfl | rfl <;> rfl) ?_
      by_cases hc29 : r28 = 0 ∨ r28 = 1
      rotate_left
      · rw [if_neg hc29] at hg; cases hg
      rw [if_pos hc29] at hg
      have hg := Option.some.inj hg
      subst hg
      exact TT_ret rfl (if_pos hc29)
  rw [if_neg hc22] at hg
  by_cases hc30 : a0 = 114
  · rw [if_pos hc30] at hg
    refine TT_lsw (t := 150) (off := 149) rfl (by decide) (by rw [hc30]; rfl) rfl ?_
    obtain ⟨x31, hx31⟩ : ∃ x : Int32, x = (I 4 0) := ⟨_, rfl⟩
    replace hg := bnd_use hx31 hg
    refine TT_go 5 (pc' := 157) (lv' := [(0, .ref 3), (1, .int a0), (2, .ref q)]) (st' := [.int x31, .ref q]) (h2 := (83, I, R0 p)) (by subst hx31; rcases hq with rfl | rfl <;> rfl) ?_
    obtain ⟨x32, hx32⟩ : ∃ x : Int32, x = (I 4 1) := ⟨_, rfl⟩
    replace hg := bnd_use hx32 hg
    refine TT_go 4 (pc' := 163) (lv' := [(0, .ref 3), (1, .int a0), (2, .ref q)]) (st' := [.int x32, .int x31, .ref q]) (h2 := (83, I, R0 p)) (by subst hx32; rcases hq with rfl | rfl <;> rfl) ?_
    cases hq33 : g_X2_setRisks n q x31 x32 I with
    | none => rw [hq33] at hg; cases hg
    | some w34 =>
      obtain ⟨r36, J35⟩ := w34
      rw [hq33] at hg
      dsimp only at hg
      refine TT_call (me' := mt_X2_setRisks) (as := [.ref q, .int x31, .int x32]) (rest := []) (r1 := some (.int r36)) (h1 := (83, J35, R0 p)) rfl rfl (by rcases hq with rfl | rfl <;> rfl) (t_X2_setRisks hq hq33) ?_
      refine TT_go 0 (pc' := 166) (lv' := [(0, .ref 3), (1, .int a0), (2, .ref q)]) (st' := [.int r36]) (h2 := (83, J35, R0 p)) (by rcases hq with rfl | rfl <;> rfl) ?_
      by_cases hc37 : r36 = 0 ∨ r36 = 1
      rotate_left
      · rw [if_neg hc37] at hg; cases hg
      rw [if_pos hc37] at hg
      have hg := Option.some.inj hg
      subst hg
      exact TT_ret rfl (if_pos hc37)
  rw [if_neg hc30] at hg
  by_cases hc38 : a0 = 121
  · rw [if_pos hc38] at hg
    refine TT_lsw (t := 93) (off := 92) rfl (by decide) (by rw [hc38]; rfl) rfl ?_
    obtain ⟨x39, hx39⟩ : ∃ x : Int32, x = (I 4 0) := ⟨_, rfl⟩
    replace hg := bnd_use hx39 hg
    refine TT_go 5 (pc' := 100) (lv' := [(0, .ref 3), (1, .int a0), (2, .ref q)]) (st' := [.int x39, .ref q]) (h2 := (83, I, R0 p)) (by subst hx39; rcases hq with rfl | rfl <;> rfl) ?_
    obtain ⟨x40, hx40⟩ : ∃ x : Int32, x = (I 4 1) := ⟨_, rfl⟩
    replace hg := bnd_use hx40 hg
    refine TT_go 4 (pc' := 106) (lv' := [(0, .ref 3), (1, .int a0), (2, .ref q)]) (st' := [.int x40, .int x39, .ref q]) (h2 := (83, I, R0 p)) (by subst hx40; rcases hq with rfl | rfl <;> rfl) ?_
    cases hq41 : g_X2_addTie n q x39 x40 I with
    | none => rw [hq41] at hg; cases hg
    | some w42 =>
      obtain ⟨r44, J43⟩ := w42
      rw [hq41] at hg
      dsimp only at hg
      refine TT_call (me' := mt_X2_addTie) (as := [.ref q, .int x39, .int x40]) (rest := []) (r1 := some (.int r44)) (h1 := (83, J43, R0 p)) rfl rfl (by rcases hq with rfl | rfl <;> rfl) (t_X2_addTie hq hq41) ?_
      refine TT_go 0 (pc' := 109) (lv' := [(0, .ref 3), (1, .int a0), (2, .ref q)]) (st' := [.int r44]) (h2 := (83, J43, R0 p)) (by rcases hq with rfl | rfl <;> rfl) ?_
      by_cases hc45 : r44 = 0 ∨ r44 = 1
      rotate_left
      · rw [if_neg hc45] at hg; cases hg
      rw [if_pos hc45] at hg
      have hg := Option.some.inj hg
      subst hg
      exact TT_ret rfl (if_pos hc45)
  rw [if_neg hc38] at hg
  refine TT_lsw (t := 167) (off := 166) rfl (by decide) (by rw [lv_osw (k := 99) hc1 (by decide), lv_osw (k := 103) hc10 (by decide), lv_osw (k := 112) hc22 (by decide), lv_osw (k := 114) hc30 (by decide), lv_osw (k := 121) hc38 (by decide)]; rfl) rfl ?_
  refine TT_go 1 (pc' := 168) (lv' := [(0, .ref 3), (1, .int a0), (2, .ref q)]) (st' := [.int 0]) (h2 := (83, I, R0 p)) (by rcases hq with rfl | rfl <;> rfl) ?_
  have hg := Option.some.inj hg
  subst hg
  exact TT_ret rfl rfl
def g_X3_readItem_106 (n : Nat) (q : Nat) (v3 : Int32) (I : IH) : Option (Int32 × IH) :=
  match g_X3_addItem n q v3 I with
  | none => none
  | some (r15, J14) =>
    if r15 = 0 ∨ r15 = 1 then some (r15, J14) else none
set_option maxRecDepth 20000 in
theorem t_X3_readItem_106 {q : Nat} (hq : q = 5 ∨ q = 18) {p : Nat} {n : Nat} {v3 : Int32} {I : IH} {w : Int32 × IH} (hg : g_X3_readItem_106 n q v3 I = some w) : TT none mt_X3_readItem 106 [(0, .ref 3), (2, .ref q), (3, .int v3)] [] (83, I, R0 p) (some (.int w.1)) (83, w.2, R0 p) := by
  unfold g_X3_readItem_106 at hg
  refine TT_go 3 (pc' := 109) (lv' := [(0, .ref 3), (2, .ref q), (3, .int v3)]) (st' := [.ref q, .int v3, .ref 3]) (h2 := (83, I, R0 p)) (by rcases hq with rfl | rfl <;> rfl) ?_
  cases hq12 : g_X3_addItem n q v3 I with
  | none => rw [hq12] at hg; cases hg
  | some w13 =>
    obtain ⟨r15, J14⟩ := w13
    rw [hq12] at hg
    dsimp only at hg
    refine TT_call (me' := mt_X3_addItem) (as := [.ref 3, .int v3, .ref q]) (rest := []) (r1 := some (.int r15)) (h1 := (83, J14, R0 p)) rfl rfl (by rcases hq with rfl | rfl <;> rfl) (t_X3_addItem hq hq12) ?_
    refine TT_go 0 (pc' := 112) (lv' := [(0, .ref 3), (2, .ref q), (3, .int v3)]) (st' := [.int r15]) (h2 := (83, J14, R0 p)) (by rcases hq with rfl | rfl <;> rfl) ?_
    by_cases hc16 : r15 = 0 ∨ r15 = 1
    rotate_left
    · rw [if_neg hc16] at hg; cases hg
    rw [if_pos hc16] at hg
    have hg := Option.some.inj hg
    subst hg
    exact TT_ret rfl (if_pos hc16)
def g_X3_readItem_85 (n : Nat) (q : Nat) (k35 : Int32 → Int32 → Int32 → IH → Option (Int32 × IH)) (v3 : Int32) (v4 : Int32) (v5 : Int32) (t0 : Int32) (t1 : Int32) (I : IH) : Option (Int32 × IH) :=
  if t1 = t0 then
    bnd (up2 I 3 1 ((I 3 1) + 1)) fun J29 =>
    bnd (v5 + 1) fun x30 =>
    k35 v3 v4 x30 J29
  else
    some (0, I)
set_option maxRecDepth 20000 in
theorem t_X3_readItem_85 {q : Nat} (hq : q = 5 ∨ q = 18) {p : Nat} {n : Nat} {k35 : Int32 → Int32 → Int32 → IH → Option (Int32 × IH)} (hk35 : ∀ (v3 : Int32) (v4 : Int32) (v5 : Int32) (I : IH) (w : Int32 × IH), k35 v3 v4 v5 I = some w → TT none mt_X3_readItem 35 [(0, .ref 3), (1, .ref 1), (2, .ref q), (3, .int v3), (4, .int v4), (5, .int v5)] [] (83, I, R0 p) (some (.int w.1)) (83, w.2, R0 p)) {v3 : Int32} {v4 : Int32} {v5 : Int32} {t0 : Int32} {t1 : Int32} {I : IH} {w : Int32 × IH} (hg : g_X3_readItem_85 n q k35 v3 v4 v5 t0 t1 I = some w) : TT none mt_X3_readItem 85 [(0, .ref 3), (1, .ref 1), (2, .ref q), (3, .int v3), (4, .int v4), (5, .int v5)] [.int t0, .int t1] (83, I, R0 p) (some (.int w.1)) (83, w.2, R0 p) := by
  unfold g_X3_readItem_85 at hg
  by_cases hc28 : t1 = t0
  · rw [if_pos hc28] at hg
    refine TT_ieq_t (t := 90) rfl rfl hc28 ?_
    obtain ⟨J29, hJ29⟩ : ∃ x : IH, x = (up2 I 3 1 ((I 3 1) + 1)) := ⟨_, rfl⟩
    replace hg := bnd_use hJ29 hg
    refine TT_go 6 (pc' := 100) (lv' := [(0, .ref 3), (1, .ref 1), (2, .ref q), (3, .int v3), (4, .int v4), (5, .int v5)]) (st' := []) (h2 := (83, J29, R0 p)) (by subst hJ29; rcases hq with rfl | rfl <;> rfl) ?_
    obtain ⟨x30, hx30⟩ : ∃ x : Int32, x = (v5 + 1) := ⟨_, rfl⟩
    replace hg := bnd_use hx30 hg
    refine TT_go 1 (pc' := 103) (lv' := [(5, .int x30), (0, .ref 3), (1, .ref 1), (2, .ref q), (3, .int v3), (4, .int v4)]) (st' := []) (h2 := (83, J29, R0 p)) (by subst hx30; rcases hq with rfl | rfl <;> rfl) ?_
    refine TT_go 1 (pc' := 35) (lv' := [(5, .int x30), (0, .ref 3), (1, .ref 1), (2, .ref q), (3, .int v3), (4, .int v4)]) (st' := []) (h2 := (83, J29, R0 p)) (by rcases hq with rfl | rfl <;> rfl) ?_
    refine TT_sub (lv2 := [(0, .ref 3), (1, .ref 1), (2, .ref q), (3, .int v3), (4, .int v4), (5, .int x30)]) rfl rfl ⟨rfl, rfl, rfl, rfl, rfl, rfl, trivial⟩ ?_
    exact hk35 v3 v4 x30 _ _ hg
  · rw [if_neg hc28] at hg
    refine TT_ieq_f (t := 90) rfl rfl hc28 ?_
    refine TT_go 1 (pc' := 89) (lv' := [(0, .ref 3), (1, .ref 1), (2, .ref q), (3, .int v3), (4, .int v4), (5, .int v5)]) (st' := [.int 0]) (h2 := (83, I, R0 p)) (by rcases hq with rfl | rfl <;> rfl) ?_
    have hg := Option.some.inj hg
    subst hg
    exact TT_ret rfl rfl
def g_X3_readItem_35 (q : Nat) : Nat → Int32 → Int32 → Int32 → IH → Option (Int32 × IH)
  | 0, _, _, _, _ => none
  | n + 1, v3, v4, v5, I =>
    if v4 ≤ v5 then
      g_X3_readItem_106 n q v3 I
    else
      if 6 ≤ v5 then
        g_X3_readItem_106 n q v3 I
      else
        match g_X3_readNumber n v5 I with
        | none => none
        | some (r21, J20) =>
          if r21 = 0 then
            some (0, J20)
          else
            match g_X7_at n (J20 3 1) J20 with
            | none => none
            | some (r26, J25) =>
              if v5 = (v4 - 1) then
                g_X3_readItem_85 n q (g_X3_readItem_35 q n) v3 v4 v5 59 r26 J25
              else
                g_X3_readItem_85 n q (g_X3_readItem_35 q n) v3 v4 v5 44 r26 J25
set_option maxRecDepth 20000 in
theorem t_X3_readItem_35 {q : Nat} (hq : q = 5 ∨ q = 18) {p : Nat} : ∀ (n : Nat) (v3 : Int32) (v4 : Int32) (v5 : Int32) (I : IH) (w : Int32 × IH), g_X3_readItem_35 q n v3 v4 v5 I = some w → TT none mt_X3_readItem 35 [(0, .ref 3), (1, .ref 1), (2, .ref q), (3, .int v3), (4, .int v4), (5, .int v5)] [] (83, I, R0 p) (some (.int w.1)) (83, w.2, R0 p) := by
  intro n
  induction n with
  | zero => intro v3 v4 v5 I w hg; cases hg
  | succ n ih =>
    intro v3 v4 v5 I w hg
    unfold g_X3_readItem_35 at hg
    refine TT_go 2 (pc' := 39) (lv' := [(0, .ref 3), (1, .ref 1), (2, .ref q), (3, .int v3), (4, .int v4), (5, .int v5)]) (st' := [.int v4, .int v5]) (h2 := (83, I, R0 p)) (by rcases hq with rfl | rfl <;> rfl) ?_
    by_cases hc11 : v4 ≤ v5
    · rw [if_pos hc11] at hg
      refine TT_ige_t (t := 106) rfl rfl hc11 ?_
      refine TT_go 0 (pc' := 106) (lv' := [(0, .ref 3), (1, .ref 1), (2, .ref q), (3, .int v3), (4, .int v4), (5, .int v5)]) (st' := []) (h2 := (83, I, R0 p)) (by rcases hq with rfl | rfl <;> rfl) ?_
      refine TT_sub (lv2 := [(0, .ref 3), (2, .ref q), (3, .int v3)]) rfl rfl ⟨rfl, rfl, rfl, trivial⟩ ?_
      exact t_X3_readItem_106 hq hg
    · rw [if_neg hc11] at hg
      refine TT_ige_f (t := 106) rfl rfl hc11 ?_
      refine TT_go 2 (pc' := 46) (lv' := [(0, .ref 3), (1, .ref 1), (2, .ref q), (3, .int v3), (4, .int v4), (5, .int v5)]) (st' := [.int 6, .int v5]) (h2 := (83, I, R0 p)) (by rcases hq with rfl | rfl <;> rfl) ?_
      by_cases hc17 : 6 ≤ v5
      · rw [if_pos hc17] at hg
        refine TT_ige_t (t := 106) rfl rfl hc17 ?_
        refine TT_go 0 (pc' := 106) (lv' := [(0, .ref 3), (1, .ref 1), (2, .ref q), (3, .int v3), (4, .int v4), (5, .int v5)]) (st' := []) (h2 := (83, I, R0 p)) (by rcases hq with rfl | rfl <;> rfl) ?_
        refine TT_sub (lv2 := [(0, .ref 3), (2, .ref q), (3, .int v3)]) rfl rfl ⟨rfl, rfl, rfl, trivial⟩ ?_
        exact t_X3_readItem_106 hq hg
      · rw [if_neg hc17] at hg
        refine TT_ige_f (t := 106) rfl rfl hc17 ?_
        refine TT_go 3 (pc' := 53) (lv' := [(0, .ref 3), (1, .ref 1), (2, .ref q), (3, .int v3), (4, .int v4), (5, .int v5)]) (st' := [.int v5, .ref 1, .ref 3]) (h2 := (83, I, R0 p)) (by rcases hq with rfl | rfl <;> rfl) ?_
        cases hq18 : g_X3_readNumber n v5 I with
        | none => rw [hq18] at hg; cases hg
        | some w19 =>
          obtain ⟨r21, J20⟩ := w19
          rw [hq18] at hg
          dsimp only at hg
          refine TT_call (me' := mt_X3_readNumber) (as := [.ref 3, .ref 1, .int v5]) (rest := []) (r1 := some (.int r21)) (h1 := (83, J20, R0 p)) rfl rfl (by rcases hq with rfl | rfl <;> rfl) (t_X3_readNumber hq18) ?_
          refine TT_go 0 (pc' := 56) (lv' := [(0, .ref 3), (1, .ref 1), (2, .ref q), (3, .int v3), (4, .int v4), (5, .int v5)]) (st' := [.int r21]) (h2 := (83, J20, R0 p)) (by rcases hq with rfl | rfl <;> rfl) ?_
          by_cases hc22 : r21 = 0
          · rw [if_pos hc22] at hg
            refine TT_zne_f (t := 61) rfl rfl hc22 ?_
            refine TT_go 1 (pc' := 60) (lv' := [(0, .ref 3), (1, .ref 1), (2, .ref q), (3, .int v3), (4, .int v4), (5, .int v5)]) (st' := [.int 0]) (h2 := (83, J20, R0 p)) (by rcases hq with rfl | rfl <;> rfl) ?_
            have hg := Option.some.inj hg
            subst hg
            exact TT_ret rfl rfl
          · rw [if_neg hc22] at hg
            refine TT_zne_t (t := 61) rfl rfl hc22 ?_
            refine TT_go 3 (pc' := 66) (lv' := [(0, .ref 3), (1, .ref 1), (2, .ref q), (3, .int v3), (4, .int v4), (5, .int v5)]) (st' := [.int (J20 3 1), .ref 1]) (h2 := (83, J20, R0 p)) (by rcases hq with rfl | rfl <;> rfl) ?_
            cases hq23 : g_X7_at n (J20 3 1) J20 with
            | none => rw [hq23] at hg; cases hg
            | some w24 =>
              obtain ⟨r26, J25⟩ := w24
              rw [hq23] at hg
              dsimp only at hg
              refine TT_call (me' := mt_X7_at) (as := [.ref 1, .int (J20 3 1)]) (rest := []) (r1 := some (.int r26)) (h1 := (83, J25, R0 p)) rfl rfl (by rcases hq with rfl | rfl <;> rfl) (t_X7_at hq23) ?_
              refine TT_go 4 (pc' := 75) (lv' := [(0, .ref 3), (1, .ref 1), (2, .ref q), (3, .int v3), (4, .int v4), (5, .int v5)]) (st' := [.int (v4 - 1), .int v5, .int r26]) (h2 := (83, J25, R0 p)) (by rcases hq with rfl | rfl <;> rfl) ?_
              by_cases hc27 : v5 = (v4 - 1)
              · rw [if_pos hc27] at hg
                refine TT_ine_f (t := 83) rfl rfl hc27 ?_
                refine TT_go 2 (pc' := 85) (lv' := [(0, .ref 3), (1, .ref 1), (2, .ref q), (3, .int v3), (4, .int v4), (5, .int v5)]) (st' := [.int 59, .int r26]) (h2 := (83, J25, R0 p)) (by rcases hq with rfl | rfl <;> rfl) ?_
                refine TT_sub (lv2 := [(0, .ref 3), (1, .ref 1), (2, .ref q), (3, .int v3), (4, .int v4), (5, .int v5)]) rfl rfl ⟨rfl, rfl, rfl, rfl, rfl, rfl, trivial⟩ ?_
                exact t_X3_readItem_85 hq ih hg
              · rw [if_neg hc27] at hg
                refine TT_ine_t (t := 83) rfl rfl hc27 ?_
                refine TT_go 1 (pc' := 85) (lv' := [(0, .ref 3), (1, .ref 1), (2, .ref q), (3, .int v3), (4, .int v4), (5, .int v5)]) (st' := [.int 44, .int r26]) (h2 := (83, J25, R0 p)) (by rcases hq with rfl | rfl <;> rfl) ?_
                refine TT_sub (lv2 := [(0, .ref 3), (1, .ref 1), (2, .ref q), (3, .int v3), (4, .int v4), (5, .int v5)]) rfl rfl ⟨rfl, rfl, rfl, rfl, rfl, rfl, trivial⟩ ?_
                exact t_X3_readItem_85 hq ih hg
def g_X3_readItem (n : Nat) (q : Nat) (I : IH) : Option (Int32 × IH) :=
  match g_X7_at n (I 3 1) I with
  | none => none
  | some (r4, J3) =>
    match g_X3_numbersOf n r4 J3 with
    | none => none
    | some (r8, J7) =>
      if r8 = 0 then
        some (0, J7)
      else
        bnd (up2 J7 3 1 ((J7 3 1) + 1)) fun J10 =>
        g_X3_readItem_35 q n r4 r8 0 J10
set_option maxRecDepth 20000 in
theorem t_X3_readItem {q : Nat} (hq : q = 5 ∨ q = 18) {p : Nat} {n : Nat} {I : IH} {w : Int32 × IH} (hg : g_X3_readItem n q I = some w) : TT none mt_X3_readItem 0 (lv_args 0 [.ref 3, .ref 1, .ref q]) [] (83, I, R0 p) (some (.int w.1)) (83, w.2, R0 p) := by
  unfold g_X3_readItem at hg
  refine TT_go 3 (pc' := 5) (lv' := [(0, .ref 3), (1, .ref 1), (2, .ref q)]) (st' := [.int (I 3 1), .ref 1]) (h2 := (83, I, R0 p)) (by rcases hq with rfl | rfl <;> rfl) ?_
  cases hq1 : g_X7_at n (I 3 1) I with
  | none => rw [hq1] at hg; cases hg
  | some w2 =>
    obtain ⟨r4, J3⟩ := w2
    rw [hq1] at hg
    dsimp only at hg
    refine TT_call (me' := mt_X7_at) (as := [.ref 1, .int (I 3 1)]) (rest := []) (r1 := some (.int r4)) (h1 := (83, J3, R0 p)) rfl rfl (by rcases hq with rfl | rfl <;> rfl) (t_X7_at hq1) ?_
    refine TT_go 2 (pc' := 10) (lv' := [(3, .int r4), (0, .ref 3), (1, .ref 1), (2, .ref q)]) (st' := [.int r4]) (h2 := (83, J3, R0 p)) (by rcases hq with rfl | rfl <;> rfl) ?_
    cases hq5 : g_X3_numbersOf n r4 J3 with
    | none => rw [hq5] at hg; cases hg
    | some w6 =>
      obtain ⟨r8, J7⟩ := w6
      rw [hq5] at hg
      dsimp only at hg
      refine TT_call (me' := mt_X3_numbersOf) (as := [.int r4]) (rest := []) (r1 := some (.int r8)) (h1 := (83, J7, R0 p)) rfl rfl (by rcases hq with rfl | rfl <;> rfl) (t_X3_numbersOf hq5) ?_
      refine TT_go 2 (pc' := 17) (lv' := [(4, .int r8), (3, .int r4), (0, .ref 3), (1, .ref 1), (2, .ref q)]) (st' := [.int r8]) (h2 := (83, J7, R0 p)) (by rcases hq with rfl | rfl <;> rfl) ?_
      by_cases hc9 : r8 = 0
      · rw [if_pos hc9] at hg
        refine TT_zne_f (t := 22) rfl rfl hc9 ?_
        refine TT_go 1 (pc' := 21) (lv' := [(4, .int r8), (3, .int r4), (0, .ref 3), (1, .ref 1), (2, .ref q)]) (st' := [.int 0]) (h2 := (83, J7, R0 p)) (by rcases hq with rfl | rfl <;> rfl) ?_
        have hg := Option.some.inj hg
        subst hg
        exact TT_ret rfl rfl
      · rw [if_neg hc9] at hg
        refine TT_zne_t (t := 22) rfl rfl hc9 ?_
        obtain ⟨J10, hJ10⟩ : ∃ x : IH, x = (up2 J7 3 1 ((J7 3 1) + 1)) := ⟨_, rfl⟩
        replace hg := bnd_use hJ10 hg
        refine TT_go 6 (pc' := 32) (lv' := [(4, .int r8), (3, .int r4), (0, .ref 3), (1, .ref 1), (2, .ref q)]) (st' := []) (h2 := (83, J10, R0 p)) (by subst hJ10; rcases hq with rfl | rfl <;> rfl) ?_
        refine TT_go 2 (pc' := 35) (lv' := [(5, .int 0), (4, .int r8), (3, .int r4), (0, .ref 3), (1, .ref 1), (2, .ref q)]) (st' := []) (h2 := (83, J10, R0 p)) (by rcases hq with rfl | rfl <;> rfl) ?_
        refine TT_sub (lv2 := [(0, .ref 3), (1, .ref 1), (2, .ref q), (3, .int r4), (4, .int r8), (5, .int 0)]) rfl rfl ⟨rfl, rfl, rfl, rfl, rfl, rfl, trivial⟩ ?_
        exact t_X3_readItem_35 hq n r4 r8 0 _ _ hg
def g_X3_readText_11 (q : Nat) : Nat → Int32 → IH → Option (Int32 × IH)
  | 0, _, _ => none
  | n + 1, v3, I =>
    if 400 ≤ v3 then
      some ((-4), I)
    else
      if (I 1 1) ≤ (I 3 1) then
        some ((-4), I)
      else
        bnd ((I 3 1)) fun x7 =>
        match g_X3_readItem n q I with
        | none => none
        | some (r11, J10) =>
          if r11 = 0 then
            some (x7, J10)
          else
            bnd (v3 + 1) fun x13 =>
            g_X3_readText_11 q n x13 J10
set_option maxRecDepth 20000 in
theorem t_X3_readText_11 {q : Nat} (hq : q = 5 ∨ q = 18) {p : Nat} : ∀ (n : Nat) (v3 : Int32) (I : IH) (w : Int32 × IH), g_X3_readText_11 q n v3 I = some w → TT none mt_X3_readText 11 [(0, .ref 3), (1, .ref 1), (2, .ref q), (3, .int v3)] [] (83, I, R0 p) (some (.int w.1)) (83, w.2, R0 p) := by
  intro n
  induction n with
  | zero => intro v3 I w hg; cases hg
  | succ n ih =>
    intro v3 I w hg
    unfold g_X3_readText_11 at hg
    refine TT_go 2 (pc' := 15) (lv' := [(0, .ref 3), (1, .ref 1), (2, .ref q), (3, .int v3)]) (st' := [.int 400, .int v3]) (h2 := (83, I, R0 p)) (by rcases hq with rfl | rfl <;> rfl) ?_
    by_cases hc5 : 400 ≤ v3
    · rw [if_pos hc5] at hg
      refine TT_ige_t (t := 53) rfl rfl hc5 ?_
      refine TT_go 1 (pc' := 55) (lv' := [(0, .ref 3), (1, .ref 1), (2, .ref q), (3, .int v3)]) (st' := [.int (-4)]) (h2 := (83, I, R0 p)) (by rcases hq with rfl | rfl <;> rfl) ?_
      have hg := Option.some.inj hg
      subst hg
      exact TT_ret rfl rfl
    · rw [if_neg hc5] at hg
      refine TT_ige_f (t := 53) rfl rfl hc5 ?_
      refine TT_go 4 (pc' := 26) (lv' := [(0, .ref 3), (1, .ref 1), (2, .ref q), (3, .int v3)]) (st' := [.int (I 1 1), .int (I 3 1)]) (h2 := (83, I, R0 p)) (by rcases hq with rfl | rfl <;> rfl) ?_
      by_cases hc6 : (I 1 1) ≤ (I 3 1)
      · rw [if_pos hc6] at hg
        refine TT_ige_t (t := 53) rfl rfl hc6 ?_
        refine TT_go 1 (pc' := 55) (lv' := [(0, .ref 3), (1, .ref 1), (2, .ref q), (3, .int v3)]) (st' := [.int (-4)]) (h2 := (83, I, R0 p)) (by rcases hq with rfl | rfl <;> rfl) ?_
        have hg := Option.some.inj hg
        subst hg
        exact TT_ret rfl rfl
      · rw [if_neg hc6] at hg
        refine TT_ige_f (t := 53) rfl rfl hc6 ?_
        obtain ⟨x7, hx7⟩ : ∃ x : Int32, x = ((I 3 1)) := ⟨_, rfl⟩
        replace hg := bnd_use hx7 hg
        refine TT_go 3 (pc' := 35) (lv' := [(4, .int x7), (0, .ref 3), (1, .ref 1), (2, .ref q), (3, .int v3)]) (st' := []) (h2 := (83, I, R0 p)) (by subst hx7; rcases hq with rfl | rfl <;> rfl) ?_
        refine TT_go 3 (pc' := 38) (lv' := [(4, .int x7), (0, .ref 3), (1, .ref 1), (2, .ref q), (3, .int v3)]) (st' := [.ref q, .ref 1, .ref 3]) (h2 := (83, I, R0 p)) (by rcases hq with rfl | rfl <;> rfl) ?_
        cases hq8 : g_X3_readItem n q I with
        | none => rw [hq8] at hg; cases hg
        | some w9 =>
          obtain ⟨r11, J10⟩ := w9
          rw [hq8] at hg
          dsimp only at hg
          refine TT_call (me' := mt_X3_readItem) (as := [.ref 3, .ref 1, .ref q]) (rest := []) (r1 := some (.int r11)) (h1 := (83, J10, R0 p)) rfl rfl (by rcases hq with rfl | rfl <;> rfl) (t_X3_readItem hq hq8) ?_
          refine TT_go 0 (pc' := 41) (lv' := [(4, .int x7), (0, .ref 3), (1, .ref 1), (2, .ref q), (3, .int v3)]) (st' := [.int r11]) (h2 := (83, J10, R0 p)) (by rcases hq with rfl | rfl <;> rfl) ?_
          by_cases hc12 : r11 = 0
          · rw [if_pos hc12] at hg
            refine TT_zne_f (t := 47) rfl rfl hc12 ?_
            refine TT_go 1 (pc' := 46) (lv' := [(4, .int x7), (0, .ref 3), (1, .ref 1), (2, .ref q), (3, .int v3)]) (st' := [.int x7]) (h2 := (83, J10, R0 p)) (by rcases hq with rfl | rfl <;> rfl) ?_
            have hg := Option.some.inj hg
            subst hg
            exact TT_ret rfl rfl
          · rw [if_neg hc12] at hg
            refine TT_zne_t (t := 47) rfl rfl hc12 ?_
            obtain ⟨x13, hx13⟩ : ∃ x : Int32, x = (v3 + 1) := ⟨_, rfl⟩
            replace hg := bnd_use hx13 hg
            refine TT_go 1 (pc' := 50) (lv' := [(3, .int x13), (4, .int x7), (0, .ref 3), (1, .ref 1), (2, .ref q)]) (st' := []) (h2 := (83, J10, R0 p)) (by subst hx13; rcases hq with rfl | rfl <;> rfl) ?_
            refine TT_go 1 (pc' := 11) (lv' := [(3, .int x13), (4, .int x7), (0, .ref 3), (1, .ref 1), (2, .ref q)]) (st' := []) (h2 := (83, J10, R0 p)) (by rcases hq with rfl | rfl <;> rfl) ?_
            refine TT_sub (lv2 := [(0, .ref 3), (1, .ref 1), (2, .ref q), (3, .int x13)]) rfl rfl ⟨rfl, rfl, rfl, rfl, trivial⟩ ?_
            exact ih x13 _ _ hg
def g_X3_readText (n : Nat) (q : Nat) (I : IH) : Option (Int32 × IH) :=
  match g_X2_clear n q I with
  | none => none
  | some J3 =>
    bnd (up2 J3 3 1 0) fun J4 =>
    g_X3_readText_11 q n 0 J4
set_option maxRecDepth 20000 in
theorem t_X3_readText {q : Nat} (hq : q = 5 ∨ q = 18) {p : Nat} {n : Nat} {I : IH} {w : Int32 × IH} (hg : g_X3_readText n q I = some w) : TT none mt_X3_readText 0 (lv_args 0 [.ref 3, .ref 1, .ref q]) [] (83, I, R0 p) (some (.int w.1)) (83, w.2, R0 p) := by
  unfold g_X3_readText at hg
  refine TT_go 1 (pc' := 1) (lv' := [(0, .ref 3), (1, .ref 1), (2, .ref q)]) (st' := [.ref q]) (h2 := (83, I, R0 p)) (by rcases hq with rfl | rfl <;> rfl) ?_
  cases hq1 : g_X2_clear n q I with
  | none => rw [hq1] at hg; cases hg
  | some w2 =>
    obtain ⟨J3, hJ3⟩ : ∃ J, J = w2 := ⟨_, rfl⟩
    rw [← hJ3] at hq1
    rw [hq1] at hg
    dsimp only at hg
    refine TT_call (me' := mt_X2_clear) (as := [.ref q]) (rest := []) (r1 := none) (h1 := (83, J3, R0 p)) rfl rfl (by rcases hq with rfl | rfl <;> rfl) (t_X2_clear hq hq1) ?_
    obtain ⟨J4, hJ4⟩ : ∃ x : IH, x = (up2 J3 3 1 0) := ⟨_, rfl⟩
    replace hg := bnd_use hJ4 hg
    refine TT_go 3 (pc' := 9) (lv' := [(0, .ref 3), (1, .ref 1), (2, .ref q)]) (st' := []) (h2 := (83, J4, R0 p)) (by subst hJ4; rcases hq with rfl | rfl <;> rfl) ?_
    refine TT_go 2 (pc' := 11) (lv' := [(3, .int 0), (0, .ref 3), (1, .ref 1), (2, .ref q)]) (st' := []) (h2 := (83, J4, R0 p)) (by rcases hq with rfl | rfl <;> rfl) ?_
    refine TT_sub (lv2 := [(0, .ref 3), (1, .ref 1), (2, .ref q), (3, .int 0)]) rfl rfl ⟨rfl, rfl, rfl, rfl, trivial⟩ ?_
    exact t_X3_readText_11 hq n 0 _ _ hg
def g_X5_copyFrom (n : Nat) (s4 : Nat) (o4 : Nat) (I : IH) : Option (IH) :=
  bnd (cpyH I (o4 + 1) (s4 + 1) 0 0 16) fun J1 =>
  bnd (up2 J1 s4 1 (J1 o4 1)) fun J2 =>
  bnd (up2 J2 s4 2 (J2 o4 2)) fun J3 =>
  some J3
set_option maxRecDepth 20000 in
theorem t_X5_copyFrom {s4 : Nat} (hs4 : s4 = 31 ∨ s4 = 33 ∨ s4 = 49 ∨ s4 = 51) {o4 : Nat} (ho4 : o4 = 31 ∨ o4 = 33 ∨ o4 = 49 ∨ o4 = 51) {p : Nat} {n : Nat} {I : IH} {w : IH} (hg : g_X5_copyFrom n s4 o4 I = some w) : TT none mt_X5_copyFrom 0 (lv_args 0 [.ref s4, .ref o4]) [] (83, I, R0 p) none (83, w, R0 p) := by
  unfold g_X5_copyFrom at hg
  obtain ⟨J1, hJ1⟩ : ∃ x : IH, x = (cpyH I (o4 + 1) (s4 + 1) 0 0 16) := ⟨_, rfl⟩
  replace hg := bnd_use hJ1 hg
  refine TT_go 10 (pc' := 18) (lv' := [(0, .ref s4), (1, .ref o4)]) (st' := []) (h2 := (83, J1, R0 p)) (by subst hJ1; rcases hs4 with rfl | rfl | rfl | rfl <;> rcases ho4 with rfl | rfl | rfl | rfl <;> rfl) ?_
  obtain ⟨J2, hJ2⟩ : ∃ x : IH, x = (up2 J1 s4 1 (J1 o4 1)) := ⟨_, rfl⟩
  replace hg := bnd_use hJ2 hg
  refine TT_go 4 (pc' := 26) (lv' := [(0, .ref s4), (1, .ref o4)]) (st' := []) (h2 := (83, J2, R0 p)) (by subst hJ2; rcases hs4 with rfl | rfl | rfl | rfl <;> rcases ho4 with rfl | rfl | rfl | rfl <;> rfl) ?_
  obtain ⟨J3, hJ3⟩ : ∃ x : IH, x = (up2 J2 s4 2 (J2 o4 2)) := ⟨_, rfl⟩
  replace hg := bnd_use hJ3 hg
  refine TT_go 4 (pc' := 34) (lv' := [(0, .ref s4), (1, .ref o4)]) (st' := []) (h2 := (83, J3, R0 p)) (by subst hJ3; rcases hs4 with rfl | rfl | rfl | rfl <;> rcases ho4 with rfl | rfl | rfl | rfl <;> rfl) ?_
  have hg := Option.some.inj hg
  subst hg
  exact TT_ret rfl rfl
def g_X5_standing_28 (n : Nat) (s : Nat) (q : Nat) (k4 : Int32 → Int32 → IH → Option (Int32 × IH)) (v2 : Int32) (v3 : Int32) (I : IH) : Option (Int32 × IH) :=
  bnd (v3 + 1) fun x10 =>
  k4 v2 x10 I
set_option maxRecDepth 20000 in
theorem t_X5_standing_28 {s : Nat} (hs : s = 31 ∨ s = 33) {q : Nat} (hq : q = 5 ∨ q = 18) {p : Nat} {n : Nat} {k4 : Int32 → Int32 → IH → Option (Int32 × IH)} (hk4 : ∀ (v2 : Int32) (v3 : Int32) (I : IH) (w : Int32 × IH), k4 v2 v3 I = some w → TT none mt_X5_standing 4 [(0, .ref s), (1, .ref q), (2, .int v2), (3, .int v3)] [] (83, I, R0 p) (some (.int w.1)) (83, w.2, R0 p)) {v2 : Int32} {v3 : Int32} {I : IH} {w : Int32 × IH} (hg : g_X5_standing_28 n s q k4 v2 v3 I = some w) : TT none mt_X5_standing 28 [(0, .ref s), (1, .ref q), (2, .int v2), (3, .int v3)] [] (83, I, R0 p) (some (.int w.1)) (83, w.2, R0 p) := by
  unfold g_X5_standing_28 at hg
  obtain ⟨x10, hx10⟩ : ∃ x : Int32, x = (v3 + 1) := ⟨_, rfl⟩
  replace hg := bnd_use hx10 hg
  refine TT_go 1 (pc' := 31) (lv' := [(3, .int x10), (0, .ref s), (1, .ref q), (2, .int v2)]) (st' := []) (h2 := (83, I, R0 p)) (by subst hx10; rcases hs with rfl | rfl <;> rcases hq with rfl | rfl <;> rfl) ?_
  refine TT_go 1 (pc' := 4) (lv' := [(3, .int x10), (0, .ref s), (1, .ref q), (2, .int v2)]) (st' := []) (h2 := (83, I, R0 p)) (by rcases hs with rfl | rfl <;> rcases hq with rfl | rfl <;> rfl) ?_
  refine TT_sub (lv2 := [(0, .ref s), (1, .ref q), (2, .int v2), (3, .int x10)]) rfl rfl ⟨rfl, rfl, rfl, rfl, trivial⟩ ?_
  exact hk4 v2 x10 _ _ hg
def g_X5_standing_4 (s : Nat) (q : Nat) : Nat → Int32 → Int32 → IH → Option (Int32 × IH)
  | 0, _, _, _ => none
  | n + 1, v2, v3, I =>
    if (I q 0) ≤ v3 then
      some (v2, I)
    else
      match g_X5_upperBulb n s v3 I with
      | none => none
      | some (r5, J4) =>
        if inB r5 16 = true then
          bnd (J4 ((s + 1)) (Int32.toNatClampNeg r5)) fun x7 =>
          if x7 = 0 then
            bnd (v2 + 1) fun x9 =>
            g_X5_standing_28 n s q (g_X5_standing_4 s q n) x9 v3 J4
          else
            g_X5_standing_28 n s q (g_X5_standing_4 s q n) v2 v3 J4
        else none
set_option maxRecDepth 20000 in
theorem t_X5_standing_4 {s : Nat} (hs : s = 31 ∨ s = 33) {q : Nat} (hq : q = 5 ∨ q = 18) {p : Nat} : ∀ (n : Nat) (v2 : Int32) (v3 : Int32) (I : IH) (w : Int32 × IH), g_X5_standing_4 s q n v2 v3 I = some w → TT none mt_X5_standing 4 [(0, .ref s), (1, .ref q), (2, .int v2), (3, .int v3)] [] (83, I, R0 p) (some (.int w.1)) (83, w.2, R0 p) := by
  intro n
  induction n with
  | zero => intro v2 v3 I w hg; cases hg
  | succ n ih =>
    intro v2 v3 I w hg
    unfold g_X5_standing_4 at hg
    refine TT_go 3 (pc' := 9) (lv' := [(0, .ref s), (1, .ref q), (2, .int v2), (3, .int v3)]) (st' := [.int (I q 0), .int v3]) (h2 := (83, I, R0 p)) (by rcases hs with rfl | rfl <;> rcases hq with rfl | rfl <;> rfl) ?_
    by_cases hc1 : (I q 0) ≤ v3
    · rw [if_pos hc1] at hg
      refine TT_ige_t (t := 34) rfl rfl hc1 ?_
      refine TT_go 1 (pc' := 35) (lv' := [(0, .ref s), (1, .ref q), (2, .int v2), (3, .int v3)]) (st' := [.int v2]) (h2 := (83, I, R0 p)) (by rcases hs with rfl | rfl <;> rcases hq with rfl | rfl <;> rfl) ?_
      have hg := Option.some.inj hg
      subst hg
      exact TT_ret rfl rfl
    · rw [if_neg hc1] at hg
      refine TT_ige_f (t := 34) rfl rfl hc1 ?_
      refine TT_go 4 (pc' := 18) (lv' := [(0, .ref s), (1, .ref q), (2, .int v2), (3, .int v3)]) (st' := [.int v3, .ref s, .ref (s + 1)]) (h2 := (83, I, R0 p)) (by rcases hs with rfl | rfl <;> rcases hq with rfl | rfl <;> rfl) ?_
      cases hq2 : g_X5_upperBulb n s v3 I with
      | none => rw [hq2] at hg; cases hg
      | some w3 =>
        obtain ⟨r5, J4⟩ := w3
        rw [hq2] at hg
        dsimp only at hg
        refine TT_call (me' := mt_X5_upperBulb) (as := [.ref s, .int v3]) (rest := [.ref (s + 1)]) (r1 := some (.int r5)) (h1 := (83, J4, R0 p)) rfl rfl (by rcases hs with rfl | rfl <;> rcases hq with rfl | rfl <;> rfl) (t_X5_upperBulb hs hq2) ?_
        refine TT_go 0 (pc' := 21) (lv' := [(0, .ref s), (1, .ref q), (2, .int v2), (3, .int v3)]) (st' := [.int r5, .ref (s + 1)]) (h2 := (83, J4, R0 p)) (by rcases hs with rfl | rfl <;> rcases hq with rfl | rfl <;> rfl) ?_
        by_cases hb6 : inB r5 16 = true
        rotate_left
        · rw [if_neg hb6] at hg; cases hg
        rw [if_pos hb6] at hg
        refine TT_iald (n := 16) rfl (by rcases hs with rfl | rfl <;> rcases hq with rfl | rfl <;> rfl) hb6 ?_
        obtain ⟨x7, hx7⟩ : ∃ x : Int32, x = (J4 ((s + 1)) (Int32.toNatClampNeg r5)) := ⟨_, rfl⟩
        replace hg := bnd_use hx7 hg
        refine TT_go 0 (pc' := 22) (lv' := [(0, .ref s), (1, .ref q), (2, .int v2), (3, .int v3)]) (st' := [.int x7]) (h2 := (83, J4, R0 p)) (by subst hx7; rcases hs with rfl | rfl <;> rcases hq with rfl | rfl <;> rfl) ?_
        by_cases hc8 : x7 = 0
        · rw [if_pos hc8] at hg
          refine TT_zne_f (t := 28) rfl rfl hc8 ?_
          obtain ⟨x9, hx9⟩ : ∃ x : Int32, x = (v2 + 1) := ⟨_, rfl⟩
          replace hg := bnd_use hx9 hg
          refine TT_go 1 (pc' := 28) (lv' := [(2, .int x9), (0, .ref s), (1, .ref q), (3, .int v3)]) (st' := []) (h2 := (83, J4, R0 p)) (by subst hx9; rcases hs with rfl | rfl <;> rcases hq with rfl | rfl <;> rfl) ?_
          refine TT_sub (lv2 := [(0, .ref s), (1, .ref q), (2, .int x9), (3, .int v3)]) rfl rfl ⟨rfl, rfl, rfl, rfl, trivial⟩ ?_
          exact t_X5_standing_28 hs hq ih hg
        · rw [if_neg hc8] at hg
          refine TT_zne_t (t := 28) rfl rfl hc8 ?_
          refine TT_go 0 (pc' := 28) (lv' := [(0, .ref s), (1, .ref q), (2, .int v2), (3, .int v3)]) (st' := []) (h2 := (83, J4, R0 p)) (by rcases hs with rfl | rfl <;> rcases hq with rfl | rfl <;> rfl) ?_
          refine TT_sub (lv2 := [(0, .ref s), (1, .ref q), (2, .int v2), (3, .int v3)]) rfl rfl ⟨rfl, rfl, rfl, rfl, trivial⟩ ?_
          exact t_X5_standing_28 hs hq ih hg
def g_X5_standing (n : Nat) (s : Nat) (q : Nat) (I : IH) : Option (Int32 × IH) :=
  g_X5_standing_4 s q n 0 0 I
set_option maxRecDepth 20000 in
theorem t_X5_standing {s : Nat} (hs : s = 31 ∨ s = 33) {q : Nat} (hq : q = 5 ∨ q = 18) {p : Nat} {n : Nat} {I : IH} {w : Int32 × IH} (hg : g_X5_standing n s q I = some w) : TT none mt_X5_standing 0 (lv_args 0 [.ref s, .ref q]) [] (83, I, R0 p) (some (.int w.1)) (83, w.2, R0 p) := by
  unfold g_X5_standing at hg
  refine TT_go 4 (pc' := 4) (lv' := [(3, .int 0), (2, .int 0), (0, .ref s), (1, .ref q)]) (st' := []) (h2 := (83, I, R0 p)) (by rcases hs with rfl | rfl <;> rcases hq with rfl | rfl <;> rfl) ?_
  refine TT_sub (lv2 := [(0, .ref s), (1, .ref q), (2, .int 0), (3, .int 0)]) rfl rfl ⟨rfl, rfl, rfl, rfl, trivial⟩ ?_
  exact t_X5_standing_4 hs hq n 0 0 _ _ hg
def g_X4_stoodBy_57 (n : Nat) (q : Nat) (k9 : Int32 → Int32 → Int32 → Int32 → Int32 → IH → Option (Int32 × IH)) (v3 : Int32) (v4 : Int32) (v5 : Int32) (v7 : Int32) (t0 : Int32) (I : IH) : Option (Int32 × IH) :=
  match g_X5_standing n 33 q I with
  | none => none
  | some (r14, J13) =>
    bnd ((v5 + r14)) fun x15 =>
    match g_X5_letSandFall n 33 q J13 with
    | none => none
    | some J18 =>
      bnd (v7 + 1) fun x19 =>
      k9 v3 v4 x15 t0 x19 J18
set_option maxRecDepth 20000 in
theorem t_X4_stoodBy_57 {q : Nat} (hq : q = 5 ∨ q = 18) {p : Nat} {n : Nat} {k9 : Int32 → Int32 → Int32 → Int32 → Int32 → IH → Option (Int32 × IH)} (hk9 : ∀ (v3 : Int32) (v4 : Int32) (v5 : Int32) (v6 : Int32) (v7 : Int32) (I : IH) (w : Int32 × IH), k9 v3 v4 v5 v6 v7 I = some w → TT none mt_X4_stoodBy 9 [(0, .ref 44), (1, .ref q), (2, .ref 33), (3, .int v3), (4, .int v4), (5, .int v5), (6, .int v6), (7, .int v7)] [] (83, I, R0 p) (some (.int w.1)) (83, w.2, R0 p)) {v3 : Int32} {v4 : Int32} {v5 : Int32} {v7 : Int32} {t0 : Int32} {I : IH} {w : Int32 × IH} (hg : g_X4_stoodBy_57 n q k9 v3 v4 v5 v7 t0 I = some w) : TT none mt_X4_stoodBy 57 [(0, .ref 44), (1, .ref q), (2, .ref 33), (3, .int v3), (4, .int v4), (5, .int v5), (7, .int v7)] [.int t0] (83, I, R0 p) (some (.int w.1)) (83, w.2, R0 p) := by
  unfold g_X4_stoodBy_57 at hg
  refine TT_go 4 (pc' := 63) (lv' := [(6, .int t0), (0, .ref 44), (1, .ref q), (2, .ref 33), (3, .int v3), (4, .int v4), (5, .int v5), (7, .int v7)]) (st' := [.ref q, .ref 33, .int v5]) (h2 := (83, I, R0 p)) (by rcases hq with rfl | rfl <;> rfl) ?_
  cases hq11 : g_X5_standing n 33 q I with
  | none => rw [hq11] at hg; cases hg
  | some w12 =>
    obtain ⟨r14, J13⟩ := w12
    rw [hq11] at hg
    dsimp only at hg
    refine TT_call (me' := mt_X5_standing) (as := [.ref 33, .ref q]) (rest := [.int v5]) (r1 := some (.int r14)) (h1 := (83, J13, R0 p)) rfl rfl (by rcases hq with rfl | rfl <;> rfl) (t_X5_standing (Or.inr rfl) hq hq11) ?_
    obtain ⟨x15, hx15⟩ : ∃ x : Int32, x = ((v5 + r14)) := ⟨_, rfl⟩
    replace hg := bnd_use hx15 hg
    refine TT_go 2 (pc' := 69) (lv' := [(5, .int x15), (6, .int t0), (0, .ref 44), (1, .ref q), (2, .ref 33), (3, .int v3), (4, .int v4), (7, .int v7)]) (st' := []) (h2 := (83, J13, R0 p)) (by subst hx15; rcases hq with rfl | rfl <;> rfl) ?_
    refine TT_go 2 (pc' := 71) (lv' := [(5, .int x15), (6, .int t0), (0, .ref 44), (1, .ref q), (2, .ref 33), (3, .int v3), (4, .int v4), (7, .int v7)]) (st' := [.ref q, .ref 33]) (h2 := (83, J13, R0 p)) (by rcases hq with rfl | rfl <;> rfl) ?_
    cases hq16 : g_X5_letSandFall n 33 q J13 with
    | none => rw [hq16] at hg; cases hg
    | some w17 =>
      obtain ⟨J18, hJ18⟩ : ∃ J, J = w17 := ⟨_, rfl⟩
      rw [← hJ18] at hq16
      rw [hq16] at hg
      dsimp only at hg
      refine TT_call (me' := mt_X5_letSandFall) (as := [.ref 33, .ref q]) (rest := []) (r1 := none) (h1 := (83, J18, R0 p)) rfl rfl (by rcases hq with rfl | rfl <;> rfl) (t_X5_letSandFall (Or.inr rfl) hq hq16) ?_
      obtain ⟨x19, hx19⟩ : ∃ x : Int32, x = (v7 + 1) := ⟨_, rfl⟩
      replace hg := bnd_use hx19 hg
      refine TT_go 1 (pc' := 77) (lv' := [(7, .int x19), (5, .int x15), (6, .int t0), (0, .ref 44), (1, .ref q), (2, .ref 33), (3, .int v3), (4, .int v4)]) (st' := []) (h2 := (83, J18, R0 p)) (by subst hx19; rcases hq with rfl | rfl <;> rfl) ?_
      refine TT_go 1 (pc' := 9) (lv' := [(7, .int x19), (5, .int x15), (6, .int t0), (0, .ref 44), (1, .ref q), (2, .ref 33), (3, .int v3), (4, .int v4)]) (st' := []) (h2 := (83, J18, R0 p)) (by rcases hq with rfl | rfl <;> rfl) ?_
      refine TT_sub (lv2 := [(0, .ref 44), (1, .ref q), (2, .ref 33), (3, .int v3), (4, .int v4), (5, .int x15), (6, .int t0), (7, .int x19)]) rfl rfl ⟨rfl, rfl, rfl, rfl, rfl, rfl, rfl, rfl, trivial⟩ ?_
      exact hk9 v3 v4 x15 t0 x19 _ _ hg
def g_X4_stoodBy_9 (q : Nat) : Nat → Int32 → Int32 → Int32 → Int32 → Int32 → IH → Option (Int32 × IH)
  | 0, _, _, _, _, _, _ => none
  | n + 1, v3, v4, v5, v6, v7, I =>
    if v4 ≤ v7 then
      some (v5, I)
    else
      if (I 44 2) ≤ v5 then
        some (v5, I)
      else
        if inB v6 3 = true then
          bnd (I 45 (Int32.toNatClampNeg v6)) fun x4 =>
          if inB x4 8 = true then
            bnd (I ((q + 9)) (Int32.toNatClampNeg x4)) fun x6 =>
            match g_X5_flip n 33 x6 I with
            | none => none
            | some J9 =>
              if v3 ≤ (v6 + 1) then
                g_X4_stoodBy_57 n q (g_X4_stoodBy_9 q n) v3 v4 v5 v7 0 J9
              else
                g_X4_stoodBy_57 n q (g_X4_stoodBy_9 q n) v3 v4 v5 v7 ((v6 + 1)) J9
          else none
        else none
set_option maxRecDepth 20000 in
theorem t_X4_stoodBy_9 {q : Nat} (hq : q = 5 ∨ q = 18) {p : Nat} : ∀ (n : Nat) (v3 : Int32) (v4 : Int32) (v5 : Int32) (v6 : Int32) (v7 : Int32) (I : IH) (w : Int32 × IH), g_X4_stoodBy_9 q n v3 v4 v5 v6 v7 I = some w → TT none mt_X4_stoodBy 9 [(0, .ref 44), (1, .ref q), (2, .ref 33), (3, .int v3), (4, .int v4), (5, .int v5), (6, .int v6), (7, .int v7)] [] (83, I, R0 p) (some (.int w.1)) (83, w.2, R0 p) := by
  intro n
  induction n with
  | zero => intro v3 v4 v5 v6 v7 I w hg; cases hg
  | succ n ih =>
    intro v3 v4 v5 v6 v7 I w hg
    unfold g_X4_stoodBy_9 at hg
    refine TT_go 2 (pc' := 13) (lv' := [(0, .ref 44), (1, .ref q), (2, .ref 33), (3, .int v3), (4, .int v4), (5, .int v5), (6, .int v6), (7, .int v7)]) (st' := [.int v4, .int v7]) (h2 := (83, I, R0 p)) (by rcases hq with rfl | rfl <;> rfl) ?_
    by_cases hc1 : v4 ≤ v7
    · rw [if_pos hc1] at hg
      refine TT_ige_t (t := 80) rfl rfl hc1 ?_
      refine TT_go 1 (pc' := 82) (lv' := [(0, .ref 44), (1, .ref q), (2, .ref 33), (3, .int v3), (4, .int v4), (5, .int v5), (6, .int v6), (7, .int v7)]) (st' := [.int v5]) (h2 := (83, I, R0 p)) (by rcases hq with rfl | rfl <;> rfl) ?_
      have hg := Option.some.inj hg
      subst hg
      exact TT_ret rfl rfl
    · rw [if_neg hc1] at hg
      refine TT_ige_f (t := 80) rfl rfl hc1 ?_
      refine TT_go 3 (pc' := 22) (lv' := [(0, .ref 44), (1, .ref q), (2, .ref 33), (3, .int v3), (4, .int v4), (5, .int v5), (6, .int v6), (7, .int v7)]) (st' := [.int (I 44 2), .int v5]) (h2 := (83, I, R0 p)) (by rcases hq with rfl | rfl <;> rfl) ?_
      by_cases hc2 : (I 44 2) ≤ v5
      · rw [if_pos hc2] at hg
        refine TT_ige_t (t := 80) rfl rfl hc2 ?_
        refine TT_go 1 (pc' := 82) (lv' := [(0, .ref 44), (1, .ref q), (2, .ref 33), (3, .int v3), (4, .int v4), (5, .int v5), (6, .int v6), (7, .int v7)]) (st' := [.int v5]) (h2 := (83, I, R0 p)) (by rcases hq with rfl | rfl <;> rfl) ?_
        have hg := Option.some.inj hg
        subst hg
        exact TT_ret rfl rfl
      · rw [if_neg hc2] at hg
        refine TT_ige_f (t := 80) rfl rfl hc2 ?_
        refine TT_go 6 (pc' := 36) (lv' := [(0, .ref 44), (1, .ref q), (2, .ref 33), (3, .int v3), (4, .int v4), (5, .int v5), (6, .int v6), (7, .int v7)]) (st' := [.int v6, .ref 45, .ref (q + 9), .ref 33]) (h2 := (83, I, R0 p)) (by rcases hq with rfl | rfl <;> rfl) ?_
        by_cases hb3 : inB v6 3 = true
        rotate_left
        · rw [if_neg hb3] at hg; cases hg
        rw [if_pos hb3] at hg
        refine TT_iald (n := 3) rfl (by rcases hq with rfl | rfl <;> rfl) hb3 ?_
        obtain ⟨x4, hx4⟩ : ∃ x : Int32, x = (I 45 (Int32.toNatClampNeg v6)) := ⟨_, rfl⟩
        replace hg := bnd_use hx4 hg
        refine TT_go 0 (pc' := 37) (lv' := [(0, .ref 44), (1, .ref q), (2, .ref 33), (3, .int v3), (4, .int v4), (5, .int v5), (6, .int v6), (7, .int v7)]) (st' := [.int x4, .ref (q + 9), .ref 33]) (h2 := (83, I, R0 p)) (by subst hx4; rcases hq with rfl | rfl <;> rfl) ?_
        by_cases hb5 : inB x4 8 = true
        rotate_left
        · rw [if_neg hb5] at hg; cases hg
        rw [if_pos hb5] at hg
        refine TT_iald (n := 8) rfl (by rcases hq with rfl | rfl <;> rfl) hb5 ?_
        obtain ⟨x6, hx6⟩ : ∃ x : Int32, x = (I ((q + 9)) (Int32.toNatClampNeg x4)) := ⟨_, rfl⟩
        replace hg := bnd_use hx6 hg
        refine TT_go 0 (pc' := 38) (lv' := [(0, .ref 44), (1, .ref q), (2, .ref 33), (3, .int v3), (4, .int v4), (5, .int v5), (6, .int v6), (7, .int v7)]) (st' := [.int x6, .ref 33]) (h2 := (83, I, R0 p)) (by subst hx6; rcases hq with rfl | rfl <;> rfl) ?_
        cases hq7 : g_X5_flip n 33 x6 I with
        | none => rw [hq7] at hg; cases hg
        | some w8 =>
          obtain ⟨J9, hJ9⟩ : ∃ J, J = w8 := ⟨_, rfl⟩
          rw [← hJ9] at hq7
          rw [hq7] at hg
          dsimp only at hg
          refine TT_call (me' := mt_X5_flip) (as := [.ref 33, .int x6]) (rest := []) (r1 := none) (h1 := (83, J9, R0 p)) rfl rfl (by rcases hq with rfl | rfl <;> rfl) (t_X5_flip (Or.inr rfl) hq7) ?_
          refine TT_go 4 (pc' := 46) (lv' := [(0, .ref 44), (1, .ref q), (2, .ref 33), (3, .int v3), (4, .int v4), (5, .int v5), (6, .int v6), (7, .int v7)]) (st' := [.int v3, .int (v6 + 1)]) (h2 := (83, J9, R0 p)) (by rcases hq with rfl | rfl <;> rfl) ?_
          by_cases hc10 : v3 ≤ (v6 + 1)
          · rw [if_pos hc10] at hg
            refine TT_ige_t (t := 56) rfl rfl hc10 ?_
            refine TT_go 1 (pc' := 57) (lv' := [(0, .ref 44), (1, .ref q), (2, .ref 33), (3, .int v3), (4, .int v4), (5, .int v5), (6, .int v6), (7, .int v7)]) (st' := [.int 0]) (h2 := (83, J9, R0 p)) (by rcases hq with rfl | rfl <;> rfl) ?_
            refine TT_sub (lv2 := [(0, .ref 44), (1, .ref q), (2, .ref 33), (3, .int v3), (4, .int v4), (5, .int v5), (7, .int v7)]) rfl rfl ⟨rfl, rfl, rfl, rfl, rfl, rfl, rfl, trivial⟩ ?_
            exact t_X4_stoodBy_57 hq ih hg
          · rw [if_neg hc10] at hg
            refine TT_ige_f (t := 56) rfl rfl hc10 ?_
            refine TT_go 4 (pc' := 57) (lv' := [(0, .ref 44), (1, .ref q), (2, .ref 33), (3, .int v3), (4, .int v4), (5, .int v5), (6, .int v6), (7, .int v7)]) (st' := [.int (v6 + 1)]) (h2 := (83, J9, R0 p)) (by rcases hq with rfl | rfl <;> rfl) ?_
            refine TT_sub (lv2 := [(0, .ref 44), (1, .ref q), (2, .ref 33), (3, .int v3), (4, .int v4), (5, .int v5), (7, .int v7)]) rfl rfl ⟨rfl, rfl, rfl, rfl, rfl, rfl, rfl, trivial⟩ ?_
            exact t_X4_stoodBy_57 hq ih hg
def g_X4_stoodBy (n : Nat) (q : Nat) (a2 : Int32) (a3 : Int32) (I : IH) : Option (Int32 × IH) :=
  g_X4_stoodBy_9 q n a2 a3 0 0 0 I
set_option maxRecDepth 20000 in
theorem t_X4_stoodBy {q : Nat} (hq : q = 5 ∨ q = 18) {p : Nat} {n : Nat} {a2 : Int32} {a3 : Int32} {I : IH} {w : Int32 × IH} (hg : g_X4_stoodBy n q a2 a3 I = some w) : TT none mt_X4_stoodBy 0 (lv_args 0 [.ref 44, .ref q, .ref 33, .int a2, .int a3]) [] (83, I, R0 p) (some (.int w.1)) (83, w.2, R0 p) := by
  unfold g_X4_stoodBy at hg
  refine TT_go 6 (pc' := 9) (lv' := [(7, .int 0), (6, .int 0), (5, .int 0), (0, .ref 44), (1, .ref q), (2, .ref 33), (3, .int a2), (4, .int a3)]) (st' := []) (h2 := (83, I, R0 p)) (by rcases hq with rfl | rfl <;> rfl) ?_
  refine TT_sub (lv2 := [(0, .ref 44), (1, .ref q), (2, .ref 33), (3, .int a2), (4, .int a3), (5, .int 0), (6, .int 0), (7, .int 0)]) rfl rfl ⟨rfl, rfl, rfl, rfl, rfl, rfl, rfl, rfl, trivial⟩ ?_
  exact t_X4_stoodBy_9 hq n a2 a3 0 0 0 _ _ hg
def g_X4_stepRow_8 : Nat → Int32 → Int32 → IH → Option (IH)
  | 0, _, _, _ => none
  | n + 1, v1, v3, I =>
    if v3 < 0 then
      some I
    else
      if inB v3 3 = true then
        bnd (I 45 (Int32.toNatClampNeg v3)) fun x4 =>
        if inB v3 3 = true then
          bnd (up2 I 45 (Int32.toNatClampNeg v3) (x4 + 1)) fun J6 =>
          if inB v3 3 = true then
            bnd (J6 45 (Int32.toNatClampNeg v3)) fun x8 =>
            if v1 ≤ x8 then
              if inB v3 3 = true then
                bnd (up2 J6 45 (Int32.toNatClampNeg v3) 0) fun J11 =>
                bnd (v3 + (-1)) fun x12 =>
                g_X4_stepRow_8 n v1 x12 J11
              else none
            else
              some J6
          else none
        else none
      else none
set_option maxRecDepth 20000 in
theorem t_X4_stepRow_8 {p : Nat} : ∀ (n : Nat) (v1 : Int32) (v3 : Int32) (I : IH) (w : IH), g_X4_stepRow_8 n v1 v3 I = some w → TT none mt_X4_stepRow 8 [(0, .ref 44), (1, .int v1), (3, .int v3)] [] (83, I, R0 p) none (83, w, R0 p) := by
  intro n
  induction n with
  | zero => intro v1 v3 I w hg; cases hg
  | succ n ih =>
    intro v1 v3 I w hg
    unfold g_X4_stepRow_8 at hg
    refine TT_go 1 (pc' := 9) (lv' := [(0, .ref 44), (1, .int v1), (3, .int v3)]) (st' := [.int v3]) (h2 := (83, I, R0 p)) (by rfl) ?_
    by_cases hc2 : v3 < 0
    · rw [if_pos hc2] at hg
      refine TT_zlt_t (t := 46) rfl rfl hc2 ?_
      refine TT_go 0 (pc' := 46) (lv' := [(0, .ref 44), (1, .int v1), (3, .int v3)]) (st' := []) (h2 := (83, I, R0 p)) (by rfl) ?_
      have hg := Option.some.inj hg
      subst hg
      exact TT_ret rfl rfl
    · rw [if_neg hc2] at hg
      refine TT_zlt_f (t := 46) rfl rfl hc2 ?_
      refine TT_go 4 (pc' := 18) (lv' := [(0, .ref 44), (1, .int v1), (3, .int v3)]) (st' := [.int v3, .ref 45, .int v3, .ref 45]) (h2 := (83, I, R0 p)) (by rfl) ?_
      by_cases hb3 : inB v3 3 = true
      rotate_left
      · rw [if_neg hb3] at hg; cases hg
      rw [if_pos hb3] at hg
      refine TT_iald (n := 3) rfl (by rfl) hb3 ?_
      obtain ⟨x4, hx4⟩ : ∃ x : Int32, x = (I 45 (Int32.toNatClampNeg v3)) := ⟨_, rfl⟩
      replace hg := bnd_use hx4 hg
      refine TT_go 0 (pc' := 19) (lv' := [(0, .ref 44), (1, .int v1), (3, .int v3)]) (st' := [.int x4, .int v3, .ref 45]) (h2 := (83, I, R0 p)) (by subst hx4; rfl) ?_
      refine TT_go 2 (pc' := 21) (lv' := [(0, .ref 44), (1, .int v1), (3, .int v3)]) (st' := [.int (x4 + 1), .int v3, .ref 45]) (h2 := (83, I, R0 p)) (by rfl) ?_
      by_cases hb5 : inB v3 3 = true
      rotate_left
      · rw [if_neg hb5] at hg; cases hg
      rw [if_pos hb5] at hg
      refine TT_iast (n := 3) rfl (by rfl) hb5 ?_
      obtain ⟨J6, hJ6⟩ : ∃ x : IH, x = (up2 I 45 (Int32.toNatClampNeg v3) (x4 + 1)) := ⟨_, rfl⟩
      replace hg := bnd_use hJ6 hg
      refine TT_go 0 (pc' := 22) (lv' := [(0, .ref 44), (1, .int v1), (3, .int v3)]) (st' := []) (h2 := (83, J6, R0 p)) (by subst hJ6; rfl) ?_
      refine TT_go 3 (pc' := 27) (lv' := [(0, .ref 44), (1, .int v1), (3, .int v3)]) (st' := [.int v3, .ref 45]) (h2 := (83, J6, R0 p)) (by rfl) ?_
      by_cases hb7 : inB v3 3 = true
      rotate_left
      · rw [if_neg hb7] at hg; cases hg
      rw [if_pos hb7] at hg
      refine TT_iald (n := 3) rfl (by rfl) hb7 ?_
      obtain ⟨x8, hx8⟩ : ∃ x : Int32, x = (J6 45 (Int32.toNatClampNeg v3)) := ⟨_, rfl⟩
      replace hg := bnd_use hx8 hg
      refine TT_go 0 (pc' := 28) (lv' := [(0, .ref 44), (1, .int v1), (3, .int v3)]) (st' := [.int x8]) (h2 := (83, J6, R0 p)) (by subst hx8; rfl) ?_
      refine TT_go 1 (pc' := 29) (lv' := [(0, .ref 44), (1, .int v1), (3, .int v3)]) (st' := [.int v1, .int x8]) (h2 := (83, J6, R0 p)) (by rfl) ?_
      by_cases hc9 : v1 ≤ x8
      · rw [if_pos hc9] at hg
        refine TT_ige_t (t := 33) rfl rfl hc9 ?_
        refine TT_go 4 (pc' := 39) (lv' := [(0, .ref 44), (1, .int v1), (3, .int v3)]) (st' := [.int 0, .int v3, .ref 45]) (h2 := (83, J6, R0 p)) (by rfl) ?_
        by_cases hb10 : inB v3 3 = true
        rotate_left
        · rw [if_neg hb10] at hg; cases hg
        rw [if_pos hb10] at hg
        refine TT_iast (n := 3) rfl (by rfl) hb10 ?_
        obtain ⟨J11, hJ11⟩ : ∃ x : IH, x = (up2 J6 45 (Int32.toNatClampNeg v3) 0) := ⟨_, rfl⟩
        replace hg := bnd_use hJ11 hg
        refine TT_go 0 (pc' := 40) (lv' := [(0, .ref 44), (1, .int v1), (3, .int v3)]) (st' := []) (h2 := (83, J11, R0 p)) (by subst hJ11; rfl) ?_
        obtain ⟨x12, hx12⟩ : ∃ x : Int32, x = (v3 + (-1)) := ⟨_, rfl⟩
        replace hg := bnd_use hx12 hg
        refine TT_go 1 (pc' := 43) (lv' := [(3, .int x12), (0, .ref 44), (1, .int v1)]) (st' := []) (h2 := (83, J11, R0 p)) (by subst hx12; rfl) ?_
        refine TT_go 1 (pc' := 8) (lv' := [(3, .int x12), (0, .ref 44), (1, .int v1)]) (st' := []) (h2 := (83, J11, R0 p)) (by rfl) ?_
        refine TT_sub (lv2 := [(0, .ref 44), (1, .int v1), (3, .int x12)]) rfl rfl ⟨rfl, rfl, rfl, trivial⟩ ?_
        exact ih v1 x12 _ _ hg
      · rw [if_neg hc9] at hg
        refine TT_ige_f (t := 33) rfl rfl hc9 ?_
        refine TT_go 0 (pc' := 32) (lv' := [(0, .ref 44), (1, .int v1), (3, .int v3)]) (st' := []) (h2 := (83, J6, R0 p)) (by rfl) ?_
        have hg := Option.some.inj hg
        subst hg
        exact TT_ret rfl rfl
def g_X4_stepRow (n : Nat) (a0 : Int32) (a1 : Int32) (I : IH) : Option (IH) :=
  bnd (((if 3 < a1 then 3 else a1) - 1)) fun x1 =>
  g_X4_stepRow_8 n a0 x1 I
set_option maxRecDepth 20000 in
theorem t_X4_stepRow {p : Nat} {n : Nat} {a0 : Int32} {a1 : Int32} {I : IH} {w : IH} (hg : g_X4_stepRow n a0 a1 I = some w) : TT none mt_X4_stepRow 0 (lv_args 0 [.ref 44, .int a0, .int a1]) [] (83, I, R0 p) none (83, w, R0 p) := by
  unfold g_X4_stepRow at hg
  obtain ⟨x1, hx1⟩ : ∃ x : Int32, x = (((if 3 < a1 then 3 else a1) - 1)) := ⟨_, rfl⟩
  replace hg := bnd_use hx1 hg
  refine TT_go 6 (pc' := 8) (lv' := [(3, .int x1), (0, .ref 44), (1, .int a0), (2, .int a1)]) (st' := []) (h2 := (83, I, R0 p)) (by subst hx1; rfl) ?_
  refine TT_sub (lv2 := [(0, .ref 44), (1, .int a0), (3, .int x1)]) rfl rfl ⟨rfl, rfl, rfl, trivial⟩ ?_
  exact t_X4_stepRow_8 n a0 x1 _ _ hg
