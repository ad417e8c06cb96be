/-! Rules over zRun: TT says that from a point of a method on the abstract machine comes back with an answer and a heap. -/
theorem z_fuel1 : ∀ (n : Nat) (scr : Option (Nat × (Nat → Int32))) (me : ME) (pc : Nat) (lv : LV) (st : List Value) (h : Hp) (x : Option Value × Hp), zRun scr n me pc lv st h = some x → zRun scr (n + 1) me pc lv st h = some x := by
  intro n
  induction n with
  | zero => intro scr me pc lv st h x hrun; cases hrun
  | succ n ih =>
    intro scr me pc lv st h x hrun
    rw [zRun] at hrun ⊢
    cases hlk : lkp me.2.2.2.2.2.1 pc with
    | none => rw [hlk] at hrun; cases hrun
    | some il =>
      obtain ⟨ins, len⟩ := il
      rw [hlk] at hrun
      dsimp only at hrun ⊢
      cases hz : zRet me.2.2.2.2.1 ins st with
      | some r => rw [hz] at hrun; exact hrun
      | none =>
        rw [hz] at hrun
        dsimp only at hrun ⊢
        cases hc : zCall me.1 h ins st with
        | some q =>
          obtain ⟨me', as, rest⟩ := q
          rw [hc] at hrun
          dsimp only at hrun ⊢
          cases h1 : zRun none n me' 0 (lv_args 0 as) [] h with
          | none => rw [h1] at hrun; cases hrun
          | some y =>
            obtain ⟨r1, h1'⟩ := y
            rw [h1] at hrun
            rw [ih _ _ _ _ _ _ _ h1]
            exact ih _ _ _ _ _ _ _ hrun
        | none =>
          rw [hc] at hrun
          dsimp only at hrun ⊢
          cases hs : zStep scr me.1 me.2.2.2.1 pc (isIni me) ins len lv st h with
          | none => rw [hs] at hrun; cases hrun
          | some q =>
            obtain ⟨pc', lv', st', h2⟩ := q
            rw [hs] at hrun
            exact ih _ _ _ _ _ _ _ hrun
theorem z_fuel {n k : Nat} {scr : Option (Nat × (Nat → Int32))} {me : ME} {pc : Nat} {lv : LV} {st : List Value} {h : Hp} {x : Option Value × Hp} (hrun : zRun scr n me pc lv st h = some x) : zRun scr (n + k) me pc lv st h = some x := by
  induction k with
  | zero => exact hrun
  | succ k ih => exact z_fuel1 _ _ _ _ _ _ _ _ ih
def TT (scr : Option (Nat × (Nat → Int32))) (me : ME) (pc : Nat) (lv : LV) (st : List Value) (h : Hp) (r : Option Value) (h' : Hp) : Prop := ∃ n, zRun scr n me pc lv st h = some (r, h')
section
variable {scr : Option (Nat × (Nat → Int32))} {me me' : ME} {pc pc' len : Nat} {lv lv' : LV} {st st' : List Value} {h h2 h' h1 : Hp} {r r1 : Option Value} {ins : Instr} {as rest : List Value}
theorem TT_step (hl : lkp me.2.2.2.2.2.1 pc = some (ins, len)) (hz : zRet me.2.2.2.2.1 ins st = none) (hc : zCall me.1 h ins st = none) (hs : zStep scr me.1 me.2.2.2.1 pc (isIni me) ins len lv st h = some (pc', lv', st', h2)) (k : TT scr me pc' lv' st' h2 r h') : TT scr me pc lv st h r h' := by
  obtain ⟨n, hn⟩ := k
  refine ⟨n + 1, ?_⟩
  rw [zRun, hl]
  dsimp only
  rw [hz]
  dsimp only
  rw [hc]
  dsimp only
  rw [hs]
  exact hn
theorem TT_ret (hl : lkp me.2.2.2.2.2.1 pc = some (ins, len)) (hz : zRet me.2.2.2.2.1 ins st = some r) : TT scr me pc lv st h r h := by
  refine ⟨1, ?_⟩
  rw [zRun, hl]
  dsimp only
  rw [hz]
theorem TT_call (hl : lkp me.2.2.2.2.2.1 pc = some (ins, len)) (hz : zRet me.2.2.2.2.1 ins st = none) (hc : zCall me.1 h ins st = some (me', as, rest)) (k1 : TT none me' 0 (lv_args 0 as) [] h r1 h1) (k2 : TT scr me (pc + 3) lv (r1.toList ++ rest) h1 r h') : TT scr me pc lv st h r h' := by
  obtain ⟨n1, e1⟩ := k1
  obtain ⟨n2, e2⟩ := k2
  refine ⟨n1 + n2 + 1, ?_⟩
  rw [zRun, hl]
  dsimp only
  rw [hz]
  dsimp only
  rw [hc]
  dsimp only
  rw [z_fuel e1]
  dsimp only
  rw [Nat.add_comm n1 n2]
  exact z_fuel e2
end
/-- some plain steps, one behind the other -/
def zGo (scr : Option (Nat × (Nat → Int32))) (me : ME) : Nat → Nat → LV → List Value → Hp → Option Cfg
  | 0, pc, lv, st, h => some (pc, lv, st, h)
  | n + 1, pc, lv, st, h => match lkp me.2.2.2.2.2.1 pc with
    | none => none
    | some (ins, len) => match zRet me.2.2.2.2.1 ins st with
      | some _ => none
      | none => match zCall me.1 h ins st with
        | some _ => none
        | none => match zStep scr me.1 me.2.2.2.1 pc (isIni me) ins len lv st h with
          | some (pc', lv', st', h') => zGo scr me n pc' lv' st' h'
          | none => none
theorem TT_go {scr : Option (Nat × (Nat → Int32))} {me : ME} {h' h2 : Hp} {r : Option Value} (n : Nat) : ∀ {pc pc' : Nat} {lv lv' : LV} {st st' : List Value} {h : Hp}, zGo scr me n pc lv st h = some (pc', lv', st', h2) → TT scr me pc' lv' st' h2 r h' → TT scr me pc lv st h r h' := by
  induction n with
  | zero => intro pc pc' lv lv' st st' h hg k; cases hg; exact k
  | succ n ih =>
    intro pc pc' lv lv' st st' h hg k
    unfold zGo at hg
    split at hg
    next => cases hg
    next ins len hl =>
      split at hg
      next => cases hg
      next hz =>
        split at hg
        next => cases hg
        next hc =>
          split at hg
          next pc1 lv1 st1 h1 hs => exact TT_step hl hz hc hs (ih hg k)
          next => cases hg
