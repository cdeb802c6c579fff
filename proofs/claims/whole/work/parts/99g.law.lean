/-! ===== the script stays ===== -/
def scE (M M' : ab_M) : Prop := M'.2.2 71 0 0 = M.2.2 71 0 0 ∧ ∀ j, j < M.2.2 71 0 0 → M'.1 71 0 j = M.1 71 0 j
theorem ab_Call_T {d id : Nat} {as : List ab_V} {M : ab_M} {K : ab_K} (h : ab_Call d id as M K) : ab_Call d id as M (fun r M' => K r M' ∧ scE M M') := by
  intro hok l G p e h1 h2 h3 s m args below h4 h5 h6 h7
  obtain ⟨n, o, a1, a2, a3, a4, a5⟩ := h hok l G p e h1 h2 h3 s m args below h4 h5 h6 h7
  have hpre : va_Pc (as.map (ab_rv G)) (ab_W1 G M) args s := h6
  obtain ⟨-, w1, w2, w3, w4, w5, w6⟩ := hpre
  obtain ⟨r, M', b1, b2, b3, b4, b5, b6, b7, b8⟩ := a4
  refine ⟨n, o, a1, a2, a3, ⟨r, M', b1, b2, ⟨b3, ?_⟩, b4, b5, b6, b7, b8⟩, a5⟩
  obtain ⟨-, cell, c1, c2, c3, c4, c5, c6, c7⟩ := w4
  obtain ⟨-, cell', d1, d2, d3, d4, d5, d6, d7⟩ := b6
  have hlt : G.2.2.1 121 < s.heap.size := (Array.getElem?_eq_some_iff.mp c1).1
  have hc : cell' = cell := by
    have := b8.2 (G.2.2.1 121) hlt c7
    rw [d1, c1] at this
    exact Option.some.inj this
  subst hc
  have hN : M'.2.2 71 0 0 = M.2.2 71 0 0 := by
    have e := d5.symm.trans c5
    have x1 := w6.2.2.2
    have x2 := b7.2.2.2
    have := congrArg Int32.toInt e
    rw [Int32.toInt_ofNat_of_lt x2, Int32.toInt_ofNat_of_lt x1] at this
    omega
  refine ⟨hN, fun j hj => ?_⟩
  have e1 := c6 j hj
  have e2 := d6 j (by omega)
  rw [e1] at e2
  exact (Value.int.inj (Option.some.inj e2)).symm
