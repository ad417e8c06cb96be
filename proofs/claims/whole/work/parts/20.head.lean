/-! Names for what the printed functions use. -/
abbrev IH := Nat → Nat → Int32
def bnd {α β : Type} (e : α) (f : α → Option β) : Option β := f e
theorem bnd_use {α β : Type} {e x : α} {f : α → Option β} {r : β} (hx : x = e) (h : bnd e f = some r) : f x = some r := by
  subst hx
  exact h
def cpyH (I : IH) (a d sp dp n : Nat) : IH := fun x => if x = d then va_cpy (I a) (I d) sp dp n else I x
def rTab (p : Nat) : List (Nat × List (Nat × Nat)) := [(0, [(0, 1), (1, 3), (2, p), (3, 23 - p), (4, 31), (5, 33), (6, 35), (7, 40), (8, 44), (9, 47), (10, 48), (11, 53), (13, 54)]), (1, [(0, 2)]), (3, [(0, 4)]), (5, [(1, 6), (2, 7), (3, 8), (4, 9), (5, 10), (6, 11), (7, 12), (9, 13), (10, 14), (12, 15), (13, 16), (14, 17)]), (18, [(1, 19), (2, 20), (3, 21), (4, 22), (5, 23), (6, 24), (7, 25), (9, 26), (10, 27), (12, 28), (13, 29), (14, 30)]), (31, [(0, 32)]), (33, [(0, 34)]), (35, [(1, 36), (2, 37), (3, 38), (4, 39)]), (40, [(1, 41), (2, 42), (3, 43)]), (44, [(0, 45), (1, 46)]), (48, [(0, 49), (1, 51)]), (49, [(0, 50)]), (51, [(0, 52)]), (55, [(1, 56), (2, 57), (3, 58), (4, 59), (5, 60), (6, 61), (7, 62), (8, 63), (9, 64), (10, 65), (11, 66), (12, 67), (13, 68), (14, 69), (15, 70), (16, 71), (17, 72), (18, 73), (19, 74), (20, 75), (21, 76), (22, 77), (23, 78), (26, 79), (28, 80), (31, 81), (33, 82)])]
def R0 (p : Nat) : Nat → Nat → Option Nat := fun i k => match lkp (rTab p) i with
  | some l => lkp l k
  | none => none
theorem R0_swap {p : Nat} (hp : p = 5 ∨ p = 18) : up2 (up2 (R0 p) 0 2 (some (23 - p))) 0 3 (some p) = R0 (23 - p) := by
  funext i k
  by_cases hi : i = 0
  · subst hi
    by_cases h3 : k = 3
    · subst h3; rcases hp with rfl | rfl <;> rfl
    · by_cases h2 : k = 2
      · subst h2; rcases hp with rfl | rfl <;> rfl
      · simp only [up2, if_pos, if_neg h3, if_neg h2]
        have h2' : ¬ 2 = k := fun e => h2 e.symm
        have h3' : ¬ 3 = k := fun e => h3 e.symm
        simp [R0, rTab, lkp_cons, h2', h3']
  · have : ¬ 0 = i := fun e => hi e.symm
    simp only [up2, if_neg hi]
    simp [R0, rTab, lkp_cons, this]
theorem TT_aald {scr : Option (Nat × (Nat → Int32))} {me : ME} {pc : Nat} {lv : LV} {rest : List Value} {h h' : Hp} {r : Option Value} {i n q : Nat} {j : Int32} (hl : lkp me.2.2.2.2.2.1 pc = some (.aaload, 1)) (ha : arrL h i 2 = some n) (hb : inB j n = true) (hv : h.2.2 i j.toNatClampNeg = some q) (k : TT scr me (pc + 1) lv (.ref q :: rest) h r h') : TT scr me pc lv (.int j :: .ref i :: rest) h r h' := by
  refine TT_step hl rfl rfl ?_ k
  show (match (generalizing := false) arrL h i 2 with | some n => bif inB j n then some (pc + 1, lv, rfV (h.2.2 i j.toNatClampNeg) :: rest, h) else none | none => none) = _
  rw [ha]
  dsimp only
  rw [hb, hv]
  rfl
