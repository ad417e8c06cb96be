/-! What holds between calls. -/
def TxI (I : IH) : Prop := ∃ len, len ≤ 400 ∧ I 1 1 = nI len ∧ I 55 0 = nI len ∧ ∀ j, j < len → ∃ b, b < 256 ∧ I 2 j &&& 255 = nI b ∧ I 56 j = nI b
/-- a change taken back -/
def und (e : Nat × Nat × Nat) (sa : Nat → Nat) : Nat → Nat := fun b => if b = e.2.1 then sa b - e.2.2 else if b = e.1 then sa b + e.2.2 else sa b
def UV (e : Nat → Nat × Nat × Nat) : Nat → (Nat → Nat) → Prop
  | 0, _ => True
  | k + 1, sa => (e k).2.2 ≤ sa (e k).2.1 ∧ UV e k (und (e k) sa)
/-- a change as both know it: a turn has 0 grains -/
def UnE (I : IH) (π : Pln) (k : Nat) (e : Nat × Nat × Nat) : Prop :=
  (e.2.2 = 0 ∧ e.1 < π 0 0 ∧ I 36 k = nI (cl π e.1) ∧ I 79 (3 * k) = -4 ∧ I 79 (3 * k + 1) = nI e.1) ∨
  (1 ≤ e.2.2 ∧ e.2.2 ≤ 9999 ∧ e.1 < 2 * π 0 0 ∧ e.2.1 < 2 * π 0 0 ∧ e.1 ≠ e.2.1 ∧ I 36 k = 0 ∧ I 37 k = nI e.1 ∧ I 38 k = nI e.2.1 ∧ I 39 k = nI e.2.2 ∧ I 79 (3 * k) = nI e.1 ∧ I 79 (3 * k + 1) = nI e.2.1 ∧ I 79 (3 * k + 2) = nI e.2.2)
def UnI (I : IH) (π : Pln) (sa : Nat → Nat) : Prop := ∃ (z : Nat) (e : Nat → Nat × Nat × Nat), z ≤ 8 ∧ I 35 0 = nI z ∧ I 55 25 = nI z ∧ (∀ k, k < z → UnE I π k (e k)) ∧ UV e z sa
/-- what both say of a shelf in cell s and in book k -/
def ShI (I : IH) (s k : Nat) (π : Pln) (sa : Nat → Nat) (U m : Nat) : Prop := U < 256 ∧ m ≤ 1000000 ∧ tot sa (π 0 0) ≤ 16000 ∧ ShC I s (π 0 0) sa U m ∧ ShM I k (π 0 0) sa U m
/-- what was counted: z of them; ta k 0 glass, 1 minute, 2 grains -/
def TaI (I : IH) (π : Pln) (z : Nat) (ta : Nat → Nat → Nat) : Prop := z ≤ 12 ∧ I 40 0 = nI z ∧ I 77 0 = nI z ∧ ∀ k, k < z → ta k 0 < π 0 0 ∧ ta k 1 ≤ 20000 ∧ ta k 2 ≤ 9999 ∧ I 41 k = nI (ta k 0) ∧ I 42 k = nI (ta k 1) ∧ I 43 k = nI (ta k 2) ∧ I 78 (3 * k) = nI (ta k 0) ∧ I 78 (3 * k + 1) = nI (ta k 1) ∧ I 78 (3 * k + 2) = nI (ta k 2)
def KpI (I : IH) (π : Pln) (z : Nat) (ta : Nat → Nat → Nat) : Prop := ∃ (w : Nat) (zs : Nat → Nat), w ≤ 2 ∧ I 0 12 = nI w ∧ I 55 24 = nI w ∧ (∀ j, j < w → zs j ≤ z ∧ (∀ i, i < j → zs i ≤ zs j) ∧ I 53 j = nI (zs j) ∧ I 77 (1 + j) = nI (zs j) ∧ (∀ k, k < zs j → I 78 (36 * (1 + j) + 3 * k) = nI (ta k 0) ∧ I 78 (36 * (1 + j) + (3 * k + 1)) = nI (ta k 1) ∧ I 78 (36 * (1 + j) + (3 * k + 2)) = nI (ta k 2)) ∧ ∃ sa U m, ShI I (49 + 2 * j) (2 + j) π sa U m)
def Inv (p : Nat) (I : IH) : Prop := (p = 5 ∨ p = 18) ∧ TxI I ∧ I 55 29 = -4 ∧ ∃ π : Pln, PV π ∧ PlC I p π ∧ TuC I p π ∧ PlM I 0 π ∧ (∃ sa U m, ShI I 31 0 π sa U m ∧ UnI I π sa) ∧ ∃ z ta, TaI I π z ta ∧ KpI I π z ta
/-! ### what each looks at -/
theorem TxI_congr {I I' : IH} (h1 : I' 1 = I 1) (h2 : I' 2 = I 2) (h3 : I' 55 0 = I 55 0) (h4 : I' 56 = I 56) (h : TxI I) : TxI I' := by
  unfold TxI at *
  rw [h1, h2, h3, h4]
  exact h
theorem ShC_congr {I I' : IH} {s G : Nat} {sa : Nat → Nat} {U m : Nat} (h1 : I' s = I s) (h2 : I' (s + 1) = I (s + 1)) (h : ShC I s G sa U m) : ShC I' s G sa U m := by
  unfold ShC at *
  rw [h1, h2]
  exact h
theorem ShM_congr {I I' : IH} {k G : Nat} (hG : G ≤ 8) {sa : Nat → Nat} {U m : Nat} (h1 : ∀ j, 16 * k ≤ j → j < 16 * k + 16 → I' 74 j = I 74 j) (h2 : ∀ j, 8 * k ≤ j → j < 8 * k + 8 → I' 75 j = I 75 j) (h3 : I' 76 k = I 76 k) (h : ShM I k G sa U m) : ShM I' k G sa U m := by
  obtain ⟨a, b, c⟩ := h
  exact ⟨h3.trans a, fun i hi => (h2 _ (by omega) (by omega)).trans (b i hi), fun i hi => (h1 _ (by omega) (by omega)).trans (c i hi)⟩
theorem UnE_congr {I I' : IH} {π : Pln} {k : Nat} {e : Nat × Nat × Nat} (h1 : I' 36 k = I 36 k) (h2 : I' 37 k = I 37 k) (h3 : I' 38 k = I 38 k) (h4 : I' 39 k = I 39 k) (h5 : ∀ j, j < 3 → I' 79 (3 * k + j) = I 79 (3 * k + j)) (h : UnE I π k e) : UnE I' π k e := by
  have h50 := h5 0 (by omega)
  rw [Nat.add_zero] at h50
  unfold UnE at *
  rw [h1, h2, h3, h4, h50, h5 1 (by omega), h5 2 (by omega)]
  exact h
theorem UnI_congr {I I' : IH} {π : Pln} {sa : Nat → Nat} (h1 : ∀ j, 35 ≤ j → j ≤ 39 → I' j = I j) (h2 : I' 79 = I 79) (h3 : I' 55 25 = I 55 25) (h : UnI I π sa) : UnI I' π sa := by
  obtain ⟨z, e, a, b, c, d, f⟩ := h
  refine ⟨z, e, a, by rw [h1 35 (by omega) (by omega)]; exact b, by rw [h3]; exact c, fun k hk => UnE_congr ?_ ?_ ?_ ?_ ?_ (d k hk), f⟩
  · rw [h1 36 (by omega) (by omega)]
  · rw [h1 37 (by omega) (by omega)]
  · rw [h1 38 (by omega) (by omega)]
  · rw [h1 39 (by omega) (by omega)]
  · intro j _; rw [h2]
theorem TaI_congr {I I' : IH} {π : Pln} {z : Nat} {ta : Nat → Nat → Nat} (h1 : ∀ j, 40 ≤ j → j ≤ 43 → I' j = I j) (h2 : I' 77 0 = I 77 0) (h3 : ∀ j, j < 36 → I' 78 j = I 78 j) (h : TaI I π z ta) : TaI I' π z ta := by
  obtain ⟨a, b, c, d⟩ := h
  refine ⟨a, by rw [h1 40 (by omega) (by omega)]; exact b, by rw [h2]; exact c, fun k hk => ?_⟩
  rw [h1 41 (by omega) (by omega), h1 42 (by omega) (by omega), h1 43 (by omega) (by omega), h3 _ (by omega), h3 _ (by omega), h3 _ (by omega)]
  exact d k hk
theorem ShI_congr {I I' : IH} {s k : Nat} {π : Pln} (hG : π 0 0 ≤ 8) {sa : Nat → Nat} {U m : Nat} (h0 : I' s = I s) (h00 : I' (s + 1) = I (s + 1)) (h1 : ∀ j, 16 * k ≤ j → j < 16 * k + 16 → I' 74 j = I 74 j) (h2 : ∀ j, 8 * k ≤ j → j < 8 * k + 8 → I' 75 j = I 75 j) (h3 : I' 76 k = I 76 k) (h : ShI I s k π sa U m) : ShI I' s k π sa U m := by
  obtain ⟨a, b, c, d, e⟩ := h
  exact ⟨a, b, c, ShC_congr h0 h00 d, ShM_congr hG h1 h2 h3 e⟩
theorem KpI_congr {I I' : IH} {π : Pln} (hG : π 0 0 ≤ 8) {z : Nat} {ta : Nat → Nat → Nat} (h0 : I' 0 12 = I 0 12) (h1 : I' 55 24 = I 55 24) (h2 : ∀ j, 49 ≤ j → j ≤ 53 → I' j = I j) (h3 : ∀ j, 1 ≤ j → I' 77 j = I 77 j) (h4 : ∀ j, 36 ≤ j → I' 78 j = I 78 j) (h5 : ∀ j, 32 ≤ j → I' 74 j = I 74 j) (h6 : ∀ j, 16 ≤ j → I' 75 j = I 75 j) (h7 : ∀ j, 2 ≤ j → I' 76 j = I 76 j) (h : KpI I π z ta) : KpI I' π z ta := by
  obtain ⟨w, zs, a, b, c, d⟩ := h
  refine ⟨w, zs, a, by rw [h0]; exact b, by rw [h1]; exact c, fun j hj => ?_⟩
  obtain ⟨d1, d2, d3, d4, d5, sa, U, m, d6⟩ := d j hj
  refine ⟨d1, d2, by rw [h2 53 (by omega) (by omega)]; exact d3, by rw [h3 _ (by omega)]; exact d4, fun k hk => ?_, sa, U, m, ?_⟩
  · rw [h4 _ (by omega), h4 _ (by omega), h4 _ (by omega)]
    exact d5 k hk
  · exact ShI_congr hG (h2 _ (by omega) (by omega)) (h2 _ (by omega) (by omega)) (fun i hi _ => h5 i (by omega)) (fun i hi _ => h6 i (by omega)) (h7 _ (by omega)) d6
/-- nothing that is kept between calls has changed -/
def Sm (p : Nat) (I I' : IH) : Prop := (∀ id, id ≤ 2 ∨ (p ≤ id ∧ id ≤ p + 12) ∨ id = 31 ∨ id = 32 ∨ (35 ≤ id ∧ id ≤ 43) ∨ (48 ≤ id ∧ id ≤ 53) ∨ id = 56 ∨ id = 66 ∨ id = 77 ∨ id = 78 ∨ id = 79 → I' id = I id) ∧ (I' 55 0 = I 55 0 ∧ I' 55 24 = I 55 24 ∧ I' 55 25 = I 55 25 ∧ I' 55 29 = I 55 29) ∧ (∀ id, 57 ≤ id → id ≤ 73 → I' id 0 = I id 0) ∧ (∀ id j, (58 ≤ id ∧ id ≤ 64) ∨ (69 ≤ id ∧ id ≤ 71) → j < 8 → I' id j = I id j) ∧ (∀ j, j < 16 ∨ 32 ≤ j → I' 74 j = I 74 j) ∧ (∀ j, j < 8 ∨ 16 ≤ j → I' 75 j = I 75 j) ∧ ∀ j, j ≠ 1 → I' 76 j = I 76 j
theorem Sm_refl (p : Nat) (I : IH) : Sm p I I := ⟨fun _ _ => rfl, ⟨rfl, rfl, rfl, rfl⟩, fun _ _ _ => rfl, fun _ _ _ _ => rfl, fun _ _ => rfl, fun _ _ => rfl, fun _ _ => rfl⟩
theorem Sm_trans {p : Nat} {I J K : IH} (h1 : Sm p I J) (h2 : Sm p J K) : Sm p I K := by
  obtain ⟨a1, ⟨a20, a21, a22, a23⟩, a3, a4, a5, a6, a7⟩ := h1
  obtain ⟨b1, ⟨b20, b21, b22, b23⟩, b3, b4, b5, b6, b7⟩ := h2
  exact ⟨fun i h => (b1 i h).trans (a1 i h), ⟨b20.trans a20, b21.trans a21, b22.trans a22, b23.trans a23⟩, fun i h1 h2 => (b3 i h1 h2).trans (a3 i h1 h2), fun i j h1 h2 => (b4 i j h1 h2).trans (a4 i j h1 h2), fun j h => (b5 j h).trans (a5 j h), fun j h => (b6 j h).trans (a6 j h), fun j h => (b7 j h).trans (a7 j h)⟩
theorem Sm_PlM {p : Nat} {I I' : IH} (h : Sm p I I') {π : Pln} (hv : PV π) (hP : PlM I 0 π) : PlM I' 0 π := by
  have hG := hv.2.1
  have hC := hv.2.2.2.2.2.1
  obtain ⟨s1, -, s3, s4, -⟩ := h
  obtain ⟨p1, p2, p3, p4, p5, p6, p7, p8⟩ := hP
  refine ⟨by rw [s3 57 (by omega) (by omega)]; exact p1, fun i hi => ?_, by rw [s3 65 (by omega) (by omega)]; exact p3, fun k hk => ?_, by rw [s3 68 (by omega) (by omega)]; exact p5, fun k hk => ?_, by rw [s3 72 (by omega) (by omega)]; exact p7, by rw [s3 73 (by omega) (by omega)]; exact p8⟩
  · rw [s4 58 _ (by omega) (by omega), s4 61 _ (by omega) (by omega), s4 64 _ (by omega) (by omega), s4 59 _ (by omega) (by omega), s4 60 _ (by omega) (by omega), s4 62 _ (by omega) (by omega), s4 63 _ (by omega) (by omega)]
    exact p2 i hi
  · rw [s1 (66 + 0) (by omega)]
    exact p4 k hk
  · rw [s4 69 _ (by omega) (by omega), s4 70 _ (by omega) (by omega), s4 71 _ (by omega) (by omega)]
    exact p6 k hk
theorem Inv_Sm {p : Nat} {I I' : IH} (h : Inv p I) (hs : Sm p I I') : Inv p I' := by
  obtain ⟨hp, tx, hl, π, hv, pc, tu, pm, ⟨sa, U, m, sh, un⟩, z, ta, ti, ki⟩ := h
  have hG := hv.2.1
  obtain ⟨s1, ⟨s20, s21, s22, s23⟩, s3, s4, s5, s6, s7⟩ := hs
  refine ⟨hp, TxI_congr (s1 _ (by omega)) (s1 _ (by omega)) s20 (s1 _ (by omega)) tx, by rw [s23]; exact hl, π, hv, PlC_congr (fun j hj => s1 _ (by omega)) pc, fun x hx => by rw [s1 _ (by omega)]; exact tu x hx, Sm_PlM (p := p) ⟨s1, ⟨s20, s21, s22, s23⟩, s3, s4, s5, s6, s7⟩ hv pm, ⟨sa, U, m, ShI_congr hG (s1 _ (by omega)) (s1 _ (by omega)) (fun j _ h => s5 j (by omega)) (fun j _ h => s6 j (by omega)) (s7 _ (by omega)) sh, UnI_congr (fun j _ _ => s1 _ (by omega)) (s1 _ (by omega)) s22 un⟩, z, ta, TaI_congr (fun j _ _ => s1 _ (by omega)) (by rw [s1 _ (by omega)]) (fun j _ => by rw [s1 _ (by omega)]) ti, KpI_congr hG (by rw [s1 _ (by omega)]) s21 (fun j _ _ => s1 _ (by omega)) (fun j _ => by rw [s1 _ (by omega)]) (fun j _ => by rw [s1 _ (by omega)]) (fun j hj => s5 j (by omega)) (fun j hj => s6 j (by omega)) (fun j hj => s7 j (by omega)) ki⟩
theorem Sm_33 {p : Nat} (hp : p = 5 ∨ p = 18) {I I' : IH} (h : ∀ id, id ≠ 33 → id ≠ 34 → I' id = I id) : Sm p I I' := by
  refine ⟨fun id hid => h id (by omega) (by omega), ⟨?_, ?_, ?_, ?_⟩, fun id _ _ => ?_, fun id j _ _ => ?_, fun j _ => ?_, fun j _ => ?_, fun j _ => ?_⟩ <;> rw [h _ (by omega) (by omega)]
theorem Sm_Bk {p : Nat} (hp : p = 5 ∨ p = 18) {I I' : IH} (h : Bk 1 I I') : Sm p I I' := by
  obtain ⟨b1, b2, b3, b4, b5⟩ := h
  refine ⟨fun id hid => b5 id (by omega) (by omega) (by omega) (by omega) (by omega), ⟨b4 _ (by omega), b4 _ (by omega), b4 _ (by omega), b4 _ (by omega)⟩, fun id _ _ => ?_, fun id j _ _ => ?_, fun j hj => b1 j (by omega), fun j hj => b2 j (by omega), fun j hj => b3 j hj⟩
  · rw [b5 id (by omega) (by omega) (by omega) (by omega) (by omega)]
  · rw [b5 id (by omega) (by omega) (by omega) (by omega) (by omega)]
