/-! ===== rows and texts: the law's steps ===== -/
/-- the country's cells are as they were -/
def frD (M M' : ab_M) : Prop := M'.1 9 0 = M.1 9 0 ∧ M'.1 10 0 = M.1 10 0 ∧ (∀ x, x < 7 → M'.1 12 (7 * 0 + x) = M.1 12 (7 * 0 + x)) ∧ (∀ c, c < 4 → M'.1 14 c = M.1 14 c ∧ M'.1 15 c = M.1 15 c ∧ M'.1 16 c = M.1 16 c ∧ M'.1 17 c = M.1 17 c ∧ M'.1 18 c = M.1 18 c) ∧ M'.1 20 0 = M.1 20 0 ∧ M'.1 54 0 = M.1 54 0 ∧ M'.1 55 0 = M.1 55 0 ∧ M'.1 56 0 = M.1 56 0
theorem crC_fr {M M' : ab_M} {c : Nat} {D : Nat → Nat} (h : M'.1 14 c = M.1 14 c ∧ M'.1 15 c = M.1 15 c ∧ M'.1 16 c = M.1 16 c ∧ M'.1 17 c = M.1 17 c ∧ M'.1 18 c = M.1 18 c) (hc : crC M c D) : crC M' c D := by
  obtain ⟨h1, h2, h3, h4, h5⟩ := h
  unfold crC at *
  rw [h1, h2, h3, h4, h5]
  exact hc
theorem ldC_fr {M M' : ab_M} {l : Nat} {D : Nat → Nat} (h1 : M'.1 9 l = M.1 9 l) (h2 : M'.1 10 l = M.1 10 l) (h3 : ∀ x, x < 7 → M'.1 12 (7 * l + x) = M.1 12 (7 * l + x)) (hc : ldC M l D) : ldC M' l D := by
  unfold ldC at *
  rw [h1, h2]
  exact ⟨hc.1, hc.2.1, hc.2.2.1, hc.2.2.2.1, fun x hx y hy => by rw [h3 x hx]; exact hc.2.2.2.2 x hx y hy⟩
theorem nwM_fr {M M' : ab_M} {g o : Nat} {D : Nat → Nat} (h : M'.1 g 0 = M.1 g 0) (hc : nwM M g o D) : nwM M' g o D := fun k hk => by rw [h]; exact hc k hk
theorem Rel_of {M M' : ab_M} (hR : Rel M) (h1 : rw_ok M') (h2 : tx_ok M') (h3 : sc_ok M') (h7 : M'.1 70 0 = M.1 70 0) (hd : frD M M') (h8 : M'.2.2 49 0 27 = M.2.2 49 0 27 ∧ M'.2.2 49 0 28 = M.2.2 49 0 28 := by exact ⟨rfl, rfl⟩) : Rel M' := by
  obtain ⟨-, -, -, hfc, D, w1, w2, w3, w4, w5, w6, w7⟩ := hR
  obtain ⟨d1, d2, d3, d4, d5, d6, d7, d8⟩ := hd
  refine ⟨h1, h2, h3, ?_, D, w1, w2, w3, ldC_fr d1 d2 d3 w4, crC_fr (d4 0 (by omega)) w5, nwM_fr d6 w6, ?_⟩
  · unfold fc_ok wx_ok at *
    rw [h7, h8.1, h8.2]
    exact hfc
  · intro k hk
    obtain ⟨a1, a2⟩ := w7 k hk
    rw [d5, d8]
    refine ⟨a1, a2.imp (fun q => q) (fun q => ?_)⟩
    obtain ⟨q1, q2, E, q3, q4, q5, q6⟩ := q
    exact ⟨q1, q2, E, q3, q4, crC_fr (d4 (1 + k) (by omega)) q5, nwM_fr d7 q6⟩
theorem frD_lit {M M' : ab_M} (h1 : M'.1 9 = M.1 9) (h2 : M'.1 10 = M.1 10) (h3 : M'.1 12 = M.1 12) (h4 : M'.1 14 = M.1 14) (h5 : M'.1 15 = M.1 15) (h6 : M'.1 16 = M.1 16) (h7 : M'.1 17 = M.1 17) (h8 : M'.1 18 = M.1 18) (h9 : M'.1 20 = M.1 20) (h10 : M'.1 54 = M.1 54) (h11 : M'.1 55 = M.1 55) (h12 : M'.1 56 = M.1 56) : frD M M' := by
  unfold frD
  rw [h1, h2, h3, h4, h5, h6, h7, h8, h9, h10, h11, h12]
  exact ⟨rfl, rfl, fun _ _ => rfl, fun _ _ => ⟨rfl, rfl, rfl, rfl, rfl⟩, rfl, rfl, rfl, rfl⟩
theorem rw_fr {M M' : ab_M} (h : rw_ok M) (h1 : M'.1 4 0 = M.1 4 0) (h2 : M'.1 3 = M.1 3) (h3 : M'.1 50 0 = M.1 50 0) (h4 : M'.1 51 0 = M.1 51 0) : rw_ok M' := by
  unfold rw_ok at *
  rw [h1, h2, h3, h4]
  exact h
theorem tx_fr {M M' : ab_M} (h : tx_ok M) (h1 : M'.1 8 0 = M.1 8 0) (h2 : M'.1 7 = M.1 7) (h3 : M'.1 52 0 = M.1 52 0) (h4 : M'.1 53 0 = M.1 53 0) : tx_ok M' := by
  unfold tx_ok at *
  rw [h1, h2, h3, h4]
  exact h
theorem sc_rf {M : ab_M} {f : Nat} (h : sc_ok M) : sc_ok (rfM (rfC M f) f) := by
  obtain ⟨h1, h2, h3, h4, h5⟩ := h
  refine ⟨h1, h2, h3, rfl, fun g g1 g5 => ?_⟩
  by_cases hg : g = f
  · subst hg
    show (rfM (rfC M g) g).1 48 0 g = (rfM (rfC M g) g).1 57 0 g
    have e1 : (rfM (rfC M g) g).1 48 0 g = M.1 48 0 g + nI 1 := sI_eq (M := ab_sI M 0 0 13 (nI g))
    have e2 : (rfM (rfC M g) g).1 57 0 g = M.1 57 0 g + nI 1 := sI_eq (M := ab_sI (rfC M g) 49 0 10 (nI g))
    rw [e1, e2, h5 g g1 g5]
  · have e1 : (rfM (rfC M f) f).1 48 0 g = M.1 48 0 g := sI_k (M := ab_sI M 0 0 13 (nI f)) (a := 48) (b := 0) hg
    have e2 : (rfM (rfC M f) f).1 57 0 g = M.1 57 0 g := sI_k (M := ab_sI (rfC M f) 49 0 10 (nI f)) (a := 57) (b := 0) hg
    rw [e1, e2, h5 g g1 g5]
theorem Rel_rf {M : ab_M} (f : Nat) (h : Rel M) : Rel (rfM (rfC M f) f) :=
  Rel_of h (rw_fr h.1 rfl rfl rfl rfl) (tx_fr h.2.1 rfl rfl rfl rfl) (sc_rf h.2.2.1) rfl (frD_lit rfl rfl rfl rfl rfl rfl rfl rfl rfl rfl rfl rfl)
/-- what is told -/
theorem Rel_tell {M : ab_M} (v : Int32) (h : Rel M) : Rel (ab_sI (ab_sI M 0 0 14 v) 49 0 7 v) :=
  Rel_of h (rw_fr h.1 rfl rfl rfl rfl) (tx_fr h.2.1 rfl rfl rfl rfl) ⟨rfl, h.2.2.1.2.1, h.2.2.1.2.2.1, h.2.2.1.2.2.2.1, h.2.2.1.2.2.2.2⟩ rfl (frD_lit rfl rfl rfl rfl rfl rfl rfl rfl rfl rfl rfl rfl)
/-- a row, as both have it -/
theorem rw_cases {M : ab_M} (h : Rel M) {j : Nat} (hj : j < 6) : (M.1 4 0 j = -1 ∧ M.1 50 0 j = -1) ∨ ∃ n, n ≤ 40 ∧ M.1 4 0 j = nI n ∧ M.1 50 0 j = nI n ∧ ∀ k, k < n → M.1 3 j k = M.1 51 0 (40 * j + k) := by
  obtain ⟨h1, h2⟩ := h.1 j hj
  rcases h2 with h2 | ⟨n, h2, h3, h4⟩
  · exact Or.inl ⟨h1.trans h2, h2⟩
  · exact Or.inr ⟨n, h2, h1.trans h3, h3, h4⟩
theorem tx_cases {M : ab_M} (h : Rel M) {j : Nat} (hj : j < 4) : (M.1 8 0 j = -1 ∧ M.1 52 0 j = -1) ∨ ∃ n, n ≤ 80 ∧ M.1 8 0 j = nI n ∧ M.1 52 0 j = nI n ∧ ∀ k, k < n → M.1 7 j k = M.1 53 0 (80 * j + k) := by
  obtain ⟨h1, h2⟩ := h.2.1 j hj
  rcases h2 with h2 | ⟨n, h2, h3, h4⟩
  · exact Or.inl ⟨h1.trans h2, h2⟩
  · exact Or.inr ⟨n, h2, h1.trans h3, h3, h4⟩
/-- a row comes anew: sizes and places, of both -/
theorem rw_new {M : ab_M} {j n : Nat} {f g : Nat → Int32} (hn : n ≤ 40) (h : rw_ok M) (hfg : ∀ k, k < n → f k = g (40 * j + k)) (hg : ∀ r k, r < 6 → r ≠ j → k < 40 → g (40 * r + k) = M.1 51 0 (40 * r + k)) : rw_ok (sR (ab_sI (sR (ab_sI M 4 0 j (nI n)) 3 j f) 50 0 j (nI n)) 51 0 g) := by
  intro r hr
  by_cases hrj : r = j
  · subst hrj
    refine ⟨(sI_eq (M := M)).trans (sI_eq (M := sR (ab_sI M 4 0 r (nI n)) 3 r f)).symm, Or.inr ⟨n, hn, sI_eq (M := sR (ab_sI M 4 0 r (nI n)) 3 r f), fun k hk => ?_⟩⟩
    have e : (sR (ab_sI M 4 0 r (nI n)) 3 r f).1 3 r k = f k := by rw [sR_eq]
    exact e.trans (hfg k hk)
  · obtain ⟨h1, h2⟩ := h r hr
    have e1 : (sR (ab_sI (sR (ab_sI M 4 0 j (nI n)) 3 j f) 50 0 j (nI n)) 51 0 g).1 4 0 r = M.1 4 0 r := sI_k (M := M) (a := 4) (b := 0) hrj
    have e2 : (sR (ab_sI (sR (ab_sI M 4 0 j (nI n)) 3 j f) 50 0 j (nI n)) 51 0 g).1 50 0 r = M.1 50 0 r := sI_k (M := sR (ab_sI M 4 0 j (nI n)) 3 j f) (a := 50) (b := 0) hrj
    have e3 : (sR (ab_sI (sR (ab_sI M 4 0 j (nI n)) 3 j f) 50 0 j (nI n)) 51 0 g).1 3 r = M.1 3 r := sR_ne (M := ab_sI M 4 0 j (nI n)) (fun q => hrj q.2)
    rw [e1, e2, e3]
    refine ⟨h1, h2.imp (fun q => q) (fun q => ?_)⟩
    obtain ⟨m, q1, q2, q3⟩ := q
    refine ⟨m, q1, q2, fun k hk => (q3 k hk).trans ?_⟩
    exact (hg r k hr hrj (by omega)).symm
section Ops1
variable {d : Nat} {M : ab_M}
theorem y_cases (y : Int32) {mx : Nat} (h : mx < 2 ^ 31) : nI mx < y ∨ y < nI 0 ∨ ∃ n, n ≤ mx ∧ y = nI n := by
  rcases i_cases y with q | ⟨n, hn, rfl⟩
  · exact Or.inr (Or.inl q)
  · rcases Nat.lt_or_ge mx n with q | q
    · exact Or.inl (nI_lt q hn)
    · exact Or.inr (Or.inr ⟨n, q, rfl⟩)
theorem op_row {x y : Int32} (hR : Rel M) : OpI (d + 3) 103 167 [vi x, vi y] M := by
  rcases ix_cases x (n := 6) (by omega) with ⟨j, hj, rfl⟩ | hno
  · rcases y_cases y (mx := 40) (by omega) with q | q | ⟨n, hn, rfl⟩
    · exact C_row_bad (Or.inr q) (M_row_bad (Or.inr q) ⟨⟨_, rfl, rfl⟩, hR⟩)
    · exact C_row_neg hj q (M_row_neg hj q ⟨⟨_, rfl, rfl⟩, Rel_rf 5 hR⟩)
    · refine C_row hj hn (M_row hj hn ⟨⟨_, rfl, rfl⟩, ?_⟩)
      refine Rel_of hR (rw_new hn hR.1 (fun k hk => ?_) (fun r k hr hrj hk => ?_)) (tx_fr hR.2.1 rfl rfl rfl rfl) hR.2.2.1 rfl (frD_lit rfl rfl rfl rfl rfl rfl rfl rfl rfl rfl rfl rfl)
      · show (if k < n then nI 0 else _) = (if 40 * j ≤ 40 * j + k ∧ 40 * j + k < 40 * j + 40 then nI 0 else _)
        rw [if_pos hk, if_pos ⟨by omega, by omega⟩]
      · exact if_neg (by omega)
  · exact C_row_bad (Or.inl hno) (M_row_bad (Or.inl hno) ⟨⟨_, rfl, rfl⟩, hR⟩)
end Ops1
