/-! What an entry of a pool says. -/
theorem pool_fld {own ix ci k : Nat} {v : Int} (h : lkp (poolOf own) ix = some (0, ci, k, v)) : ∃ C T N, vwCl[ci]? = some (C, T, N) ∧ k < N ∧ Cond.fieldLink (ownN own) ix (T k).1 (T k).2.1 (T k).2.2.1 ∈ gTbl := by
  obtain ⟨ps, h⟩ := pool_ok h
  simp only [pOKb] at h
  split at h
  next a =>
    unfold pFld at h
    split at h
    next C T N hc =>
      rw [Bool.and_eq_true] at h
      exact ⟨C, T, N, hc, by simpa using h.1, inT_mem h.2⟩
    next => cases h
  next => cases h
theorem pool_fldN {own ix ci k : Nat} {v : Int} (h : lkp (poolOf own) ix = some (1, ci, k, v)) : ∃ C T N, vwCl[ci]? = some (C, T, N) ∧ k < N ∧ Cond.fieldLinkNest (ownN own) ix (T k).1 (T k).2.1 (T k).2.2.1 "SandBank" ∈ nW := by
  obtain ⟨ps, h⟩ := pool_ok h
  simp only [pOKb] at h
  unfold pFld at h
  split at h
  next C T N hc =>
    rw [Bool.and_eq_true] at h
    exact ⟨C, T, N, hc, by simpa using h.1, by simpa using h.2⟩
  next => cases h
def meP (k b : Nat) (me : ME) : Prop := MT[k]? = some me ∧ me.2.1.cls ≠ "java/lang/invoke/MethodHandle" ∧ me.2.1.cls ≠ "java/lang/invoke/VarHandle" ∧ (parseMethodDescriptor me.2.1.desc).map (fun d => d.parameters.length) = some b ∧ Cond.initialized me.2.1.cls ∈ gTbl ∧ Cond.code me.2.1 me.2.2.1 me.2.2.2.1 me.2.2.2.2.1 ∈ gTbl
theorem pMe_use {k b : Nat} {f : ME → Bool} (h : pMe k b f = true) : ∃ me, MT[k]? = some me ∧ me.2.1.cls ≠ "java/lang/invoke/MethodHandle" ∧ me.2.1.cls ≠ "java/lang/invoke/VarHandle" ∧ (parseMethodDescriptor me.2.1.desc).map (fun d => d.parameters.length) = some b ∧ f me = true := by
  unfold pMe at h
  split at h
  next me hm =>
    rw [Bool.and_eq_true, Bool.and_eq_true, Bool.and_eq_true] at h
    obtain ⟨⟨⟨h1, h2⟩, h3⟩, h4⟩ := h
    exact ⟨me, hm, by simpa using h1, by simpa using h2, by simpa using h3, h4⟩
  next => cases h
theorem pool_V {own ix k b : Nat} {v : Int} (h : lkp (poolOf own) ix = some (2, k, b, v)) : ∃ me, meP k b me ∧ Cond.methodLink (ownN own) ix me.2.1 ∈ gTbl ∧ Cond.instanceMethod me.2.1 ∈ gTbl ∧ Cond.selects me.2.1.cls me.2.1 me.2.1 ∈ gTbl := by
  obtain ⟨ps, h⟩ := pool_ok h
  simp only [pOKb] at h
  split at h
  next a b' c d g =>
    obtain ⟨me, h0, h1, h2, h3, h4⟩ := pMe_use h
    simp only [Bool.and_eq_true] at h4
    obtain ⟨⟨⟨⟨w1, w2⟩, w3⟩, w4⟩, w5⟩ := h4
    exact ⟨me, ⟨h0, h1, h2, h3, inT_mem w4, inT_mem w5⟩, inT_mem w1, inT_mem w2, inT_mem w3⟩
  next => cases h
theorem pool_S {own ix k b : Nat} {v : Int} (h : lkp (poolOf own) ix = some (3, k, b, v)) : ∃ me, meP k b me ∧ Cond.methodLink (ownN own) ix me.2.1 ∈ gTbl ∧ Cond.static me.2.1 ∈ gTbl := by
  obtain ⟨ps, h⟩ := pool_ok h
  simp only [pOKb] at h
  split at h
  next a b' d g =>
    obtain ⟨me, h0, h1, h2, h3, h4⟩ := pMe_use h
    simp only [Bool.and_eq_true] at h4
    obtain ⟨⟨⟨w1, w2⟩, w4⟩, w5⟩ := h4
    exact ⟨me, ⟨h0, h1, h2, h3, inT_mem w4, inT_mem w5⟩, inT_mem w1, inT_mem w2⟩
  next => cases h
theorem pool_SN {own ix k b : Nat} {v : Int} (h : lkp (poolOf own) ix = some (6, k, b, v)) : ∃ me, meP k b me ∧ Cond.methodLinkNest (ownN own) ix me.2.1 "SandBank" ∈ nW ∧ Cond.static me.2.1 ∈ gTbl := by
  obtain ⟨ps, h⟩ := pool_ok h
  simp only [pOKb] at h
  split at h
  next a b' d g =>
    obtain ⟨me, h0, h1, h2, h3, h4⟩ := pMe_use h
    simp only [Bool.and_eq_true] at h4
    obtain ⟨⟨⟨w1, w2⟩, w4⟩, w5⟩ := h4
    exact ⟨me, ⟨h0, h1, h2, h3, inT_mem w4, inT_mem w5⟩, by simpa using w1, inT_mem w2⟩
  next => cases h
theorem pool_I {own ix k b : Nat} {v : Int} (h : lkp (poolOf own) ix = some (4, k, b, v)) : ∃ me, meP k b me ∧ Cond.methodLink (ownN own) ix me.2.1 ∈ gTbl ∧ Cond.instanceMethod me.2.1 ∈ gTbl ∧ me.2.1.name = "<init>" ∧ me.2.2.2.2.1 = none := by
  obtain ⟨ps, h⟩ := pool_ok h
  simp only [pOKb] at h
  split at h
  next a b' d g =>
    obtain ⟨me, h0, h1, h2, h3, h4⟩ := pMe_use h
    simp only [Bool.and_eq_true] at h4
    obtain ⟨⟨⟨⟨⟨w1, w2⟩, w4⟩, w5⟩, w6⟩, w7⟩ := h4
    exact ⟨me, ⟨h0, h1, h2, h3, inT_mem w4, inT_mem w5⟩, inT_mem w1, inT_mem w2, by simpa using w6, by simpa using w7⟩
  next => cases h
theorem pool_IN {own ix k b : Nat} {v : Int} (h : lkp (poolOf own) ix = some (5, k, b, v)) : ∃ me, meP k b me ∧ Cond.methodLinkNest (ownN own) ix me.2.1 "SandBank" ∈ nW ∧ Cond.instanceMethod me.2.1 ∈ gTbl ∧ me.2.1.name = "<init>" ∧ me.2.2.2.2.1 = none := by
  obtain ⟨ps, h⟩ := pool_ok h
  simp only [pOKb] at h
  split at h
  next a b' d g =>
    obtain ⟨me, h0, h1, h2, h3, h4⟩ := pMe_use h
    simp only [Bool.and_eq_true] at h4
    obtain ⟨⟨⟨⟨⟨w1, w2⟩, w4⟩, w5⟩, w6⟩, w7⟩ := h4
    exact ⟨me, ⟨h0, h1, h2, h3, inT_mem w4, inT_mem w5⟩, by simpa using w1, inT_mem w2, by simpa using w6, by simpa using w7⟩
  next => cases h
theorem pool_O {own ix a b : Nat} {v : Int} (h : lkp (poolOf own) ix = some (7, a, b, v)) : Cond.methodLink (ownN own) ix Lib.objectInit ∈ gTbl ∧ Cond.instanceMethod Lib.objectInit ∈ gTbl ∧ Cond.code Lib.objectInit ⟨#[0xb1]⟩ 1 none ∈ gTbl := by
  obtain ⟨ps, h⟩ := pool_ok h
  simp only [pOKb] at h
  split at h
  next =>
    simp only [Bool.and_eq_true] at h
    exact ⟨inT_mem h.1.1, inT_mem h.1.2, inT_mem h.2⟩
  next => cases h
theorem pool_A {own ix a b : Nat} {v : Int} (h : lkp (poolOf own) ix = some (8, a, b, v)) : Cond.methodLink (ownN own) ix arraycopyName ∈ gTbl ∧ Cond.native arraycopyName ∈ gTbl ∧ Cond.static arraycopyName ∈ gTbl ∧ Cond.initialized "java/lang/System" ∈ gTbl := by
  obtain ⟨ps, h⟩ := pool_ok h
  simp only [pOKb] at h
  split at h
  next =>
    simp only [Bool.and_eq_true] at h
    exact ⟨inT_mem h.1.1.1, inT_mem h.1.1.2, inT_mem h.1.2, inT_mem h.2⟩
  next => cases h
theorem pool_max {own ix a b : Nat} {v : Int} (h : lkp (poolOf own) ix = some (13, a, b, v)) : Cond.methodLink (ownN own) ix Lib.Math.max.name ∈ gTbl ∧ Cond.static Lib.Math.max.name ∈ gTbl ∧ Cond.initialized "java/lang/Math" ∈ gTbl ∧ Cond.code Lib.Math.max.name Lib.Math.max.code 2 (some .int) ∈ gTbl := by
  obtain ⟨ps, h⟩ := pool_ok h
  simp only [pOKb] at h
  split at h
  next =>
    simp only [Bool.and_eq_true] at h
    exact ⟨inT_mem h.1.1.1, inT_mem h.1.1.2, inT_mem h.1.2, inT_mem h.2⟩
  next => cases h
theorem pool_min {own ix a b : Nat} {v : Int} (h : lkp (poolOf own) ix = some (14, a, b, v)) : Cond.methodLink (ownN own) ix Lib.Math.min.name ∈ gTbl ∧ Cond.static Lib.Math.min.name ∈ gTbl ∧ Cond.initialized "java/lang/Math" ∈ gTbl ∧ Cond.code Lib.Math.min.name Lib.Math.min.code 2 (some .int) ∈ gTbl := by
  obtain ⟨ps, h⟩ := pool_ok h
  simp only [pOKb] at h
  split at h
  next =>
    simp only [Bool.and_eq_true] at h
    exact ⟨inT_mem h.1.1.1, inT_mem h.1.1.2, inT_mem h.1.2, inT_mem h.2⟩
  next => cases h
theorem pool_c {own ix a b : Nat} {v : Int} (h : lkp (poolOf own) ix = some (9, a, b, v)) : Cond.constant (ownN own) ix (Int32.ofInt v) ∈ gTbl := by
  obtain ⟨ps, h⟩ := pool_ok h
  simp only [pOKb] at h
  split at h
  next => exact inT_mem h
  next => cases h
theorem pool_cL {own ix a b : Nat} {v : Int} (h : lkp (poolOf own) ix = some (10, a, b, v)) : Cond.constantLong (ownN own) ix (Int64.ofInt v) ∈ gTbl := by
  obtain ⟨ps, h⟩ := pool_ok h
  simp only [pOKb] at h
  split at h
  next => exact inT_mem h
  next => cases h
theorem pool_N {own ix ci b : Nat} {v : Int} (h : lkp (poolOf own) ix = some (11, ci, b, v)) : ∃ C T N, vwCl[ci]? = some (C, T, N) ∧ Cond.classLink (ownN own) ix C ∈ gTbl ∧ Cond.instantiable C N ∈ gTbl ∧ Cond.initialized C ∈ gTbl := by
  obtain ⟨ps, h⟩ := pool_ok h
  simp only [pOKb] at h
  split at h
  next C T N hc =>
    split at h
    next =>
      simp only [Bool.and_eq_true] at h
      exact ⟨C, T, N, hc, inT_mem h.1.1, inT_mem h.1.2, inT_mem h.2⟩
    next => cases h
  next => cases h
theorem jmp_spec {pc t : Nat} {off : Int} (h : jmp pc off = some t) : (pc : Int) + off = (t : Int) := by
  unfold jmp at h
  split at h
  next a ha => cases h; exact ha
  next => cases h
