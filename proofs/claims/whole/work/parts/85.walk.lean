/-! ===== ways: the reference's nextWalk ===== -/
theorem isnf_cong {D E w : Nat → Nat} {n t p : Nat} (h : eqL D E) (h2 : D 2 ≤ 12) (hp : isnf D w n t p) : isnf E w n t p := by
  have e0 : E 0 = D 0 := h 0 (by omega)
  have hf : ∀ q, fre E w n q = fre D w n q := fun q => by unfold fre; rw [pm_cong h h2]
  obtain ⟨p1, p2, p3, p4⟩ := hp
  exact ⟨p1, by rw [e0]; exact p2, fun q => by rw [hf]; exact p3 (by omega), fun q a b => by rw [hf]; exact p4 q a b⟩
theorem Run_cong {D E : Nat → Nat} (h : eqL D E) (h2 : D 2 ≤ 12) : ∀ {k n : Nat} {w : Nat → Nat} {t : Nat} {r : Option (Nat × (Nat → Nat))}, Run D k n w t r → Run E k n w t r
  | 0, _, _, _, _, hr => hr
  | k + 1, n, w, t, r, ⟨hn, p, hp, hr⟩ => by
    have e0 : E 0 = D 0 := h 0 (by omega)
    refine ⟨hn, p, isnf_cong h h2 hp, ?_⟩
    rw [e0]
    rcases hr with ⟨a, b⟩ | ⟨a, b⟩ | ⟨a, b⟩
    · exact Or.inl ⟨a, Run_cong h h2 b⟩
    · exact Or.inr (Or.inl ⟨a, b⟩)
    · exact Or.inr (Or.inr ⟨a, Run_cong h h2 b⟩)
theorem vld_cong {D E : Nat → Nat} (h : eqL D E) (h2 : D 2 ≤ 12) {n : Nat} {w : Nat → Nat} (hv : vld D n w) : vld E n w := by
  have e0 : E 0 = D 0 := h 0 (by omega)
  refine ⟨hv.1, fun k hk => by rw [e0]; exact hv.2.1 k hk, hv.2.2.1, fun k hk => by rw [pm_cong h h2]; exact hv.2.2.2 k hk⟩
theorem trl_cong {D E : Nat → Nat} (h : eqL D E) (h2 : D 2 ≤ 12) {n : Nat} {w : Nat → Nat} (hv : trl D n w) : trl E n w := by
  have e0 : E 0 = D 0 := h 0 (by omega)
  obtain ⟨a, b, c, d, e, f, g⟩ := hv
  exact ⟨a, by rw [e0]; exact b, fun k hk => by rw [e0]; exact c k hk, d, by rw [e0]; exact e, f, fun k hk => by rw [pm_cong h h2]; exact g k hk⟩
theorem trl_vld {D : Nat → Nat} {n : Nat} {w : Nat → Nat} (h : trl D n w) : vld D (n - 1) w := by
  obtain ⟨a, b, c, d, e, f, g⟩ := h
  refine ⟨d, fun k hk => ?_, fun i j hij hj => f i j hij (by omega), fun k hk => g k (by omega)⟩
  have := c k (by omega)
  have := f k (n - 1) (by omega) (by omega)
  omega
/-- the reference's walk -/
def RF (M : ab_M) (N : Nat) (w : Nat → Nat) : Prop := (∀ k, k < N → M.1 63 0 k = nI (w k)) ∧ M.1 49 0 20 = nI N ∧ M.1 49 0 21 = nI (bs (usd w (N - 1)) 7)
def RW (M : ab_M) (n : Nat) (w : Nat → Nat) (t : Nat) : Prop := (∀ k, k < n → M.1 63 0 k = nI (w k)) ∧ M.1 49 0 20 = nI n ∧ M.1 49 0 21 = nI (bs (usd w n) 7) ∧ (0 < n → ∃ τ, M.1 49 0 22 = nI τ ∧ (t = τ + 1 ∨ (t = 0 ∧ τ = 0)))
def frO (M M' : ab_M) : Prop := M'.2 = M.2 ∧ ∀ g i k, g ≠ 63 → ¬ (g = 49 ∧ i = 0 ∧ 20 ≤ k ∧ k ≤ 22) → M'.1 g i k = M.1 g i k
theorem frO_refl {M : ab_M} : frO M M := ⟨rfl, fun _ _ _ _ _ => rfl⟩
theorem frO_trans {M M' M'' : ab_M} (h : frO M M') (h2 : frO M' M'') : frO M M'' := ⟨h2.1.trans h.1, fun g i k a b => (h2.2 g i k a b).trans (h.2 g i k a b)⟩
theorem frO_A {M M' : ab_M} (h : frO M M') : frA M M' := ⟨fun g i k q => h.2 g i k (fun w => q (by unfold scr; omega)) (fun w => q (by unfold scr; omega)), fun g i k _ _ => by rw [h.1], fun g i k _ _ => by rw [h.1]⟩
theorem frO_sI {M M' : ab_M} {g i k : Nat} {v : Int32} (h : frO M M') (hs : g = 63 ∨ (g = 49 ∧ i = 0 ∧ 20 ≤ k ∧ k ≤ 22)) : frO M (ab_sI M' g i k v) :=
  ⟨h.1, fun a b c q1 q2 => by rw [sI_ne (fun w => by omega)]; exact h.2 a b c q1 q2⟩
theorem bs_pop {w : Nat → Nat} {n : Nat} (hn : 0 < n) (hd : ∀ i j, i < j → j < n → w i ≠ w j) (hx : w (n - 1) < 7) : nI (bs (usd w n) 7) &&& (nI (2 ^ w (n - 1)) ^^^ -1) = nI (bs (usd w (n - 1)) 7) := by
  rw [nI_andn (bs_lt _ _) (by omega)]
  congr 1
  refine bs_cong (fun e he => ?_)
  rw [bs_tb, decide_eq_true he, Bool.true_and, Nat.testBit_two_pow]
  obtain ⟨m, rfl⟩ : ∃ m, n = m + 1 := ⟨n - 1, by omega⟩
  rw [show m + 1 - 1 = m by omega]
  show ((usd w m e || w m == e) && !decide (w m = e)) = usd w m e
  by_cases q : w m = e
  · rw [decide_eq_true q]
    have : usd w m e = false := usd_f.mpr (fun k hk z => hd k m hk (by omega) (z.trans q.symm))
    rw [this, Bool.not_true, Bool.and_false]
  · rw [decide_eq_false q, Bool.not_false, Bool.and_true, show (w m == e) = false by simpa using q, Bool.or_false]
theorem bs_psh {w : Nat → Nat} {n p : Nat} (hp : p < 7) : nI (bs (usd w n) 7) ||| nI (2 ^ p) = nI (bs (usd (wst w n p) (n + 1)) 7) := by
  rw [nI_or, bs_ins _ hp]
  congr 1
  refine bs_cong (fun e he => ?_)
  show (usd w n e || e == p) = (usd (wst w n p) n e || wst w n p n == e)
  rw [wst_n, usd_cong (w := wst w n p) (w' := w) (fun k hk => wst_o (by omega))]
  congr 1
  rw [Bool.eq_iff_iff, beq_iff_eq, beq_iff_eq]
  exact eq_comm
section Walk
variable {d : Nat} {M : ab_M} {K : ab_K} {E : Nat → Nat}
theorem m_walkLoop (hn : nwM M 54 0 E) (hL : wfL E) (h2 : 2 ≤ E 0) {r : Option (Nat × (Nat → Nat))} (h1 : ∀ M' x, r = some x → frO M M' → RF M' x.1 x.2 → K (some (.inl 1)) M') (h0 : ∀ M', r = none → frO M M' → K (some (.inl 0)) M') {v : Int32} (hv9 : v = nI (E 0 - 1)) : ∀ k n w t M3, Run E k n w t r → vld E n w → frO M M3 → RW M3 n w t → ab_At miX10_nextWalk (d + 1) 39 [some (vr 49 0), some (vi v)] [] M3 K := by
  have w0 := hL.1
  intro k
  induction k with
  | zero =>
    intro n w t M3 hr hv f3 hC
    obtain ⟨hn0, hr⟩ := hr
    subst hn0
    refine atX10_nextWalk ?_
    refine And.intro (fun _ => ?_) (fun q => absurd q (by rw [hC.2.1]; decide))
    exact h0 M3 hr f3
  | succ k ih =>
    intro n w t M3 hr hv f3 hC
    obtain ⟨hn0, p0, hp, hr⟩ := hr
    have hvn := (vld_n hv).resolve_right (by omega)
    obtain ⟨c1, c2, c3, c4⟩ := hC
    obtain ⟨τ, t1, t2⟩ := c4 hn0
    have n3 := frA_nw (frO_A f3) (by omega) (by omega) hn
    have hp' := hp
    obtain ⟨p1, p2, p3, p4⟩ := hp'
    have hwn := hv.2.1 (n - 1) (by omega)
    have hu0 : usd w n 0 = true := exb_iff.mpr ⟨0, hn0, by rw [hv.1]; rfl⟩
    have hτp : τ + 1 ≤ p0 := by
      rcases t2 with a | ⟨a, b⟩
      · omega
      · rcases Nat.eq_zero_or_pos p0 with z | z
        · subst z
          have := p3 (by omega)
          unfold fre at this
          rw [hu0] at this
          simp at this
        · omega
    refine atX10_nextWalk ?_
    refine And.intro (fun q => absurd q (by rw [c2]; exact fun z => by have := nle_use (b := 0) z; omega)) (fun _ => ?_)
    have key : ∀ q, q ≤ p0 → τ + 1 ≤ q → ab_At miX10_nextWalk (d + 1) 53 [some (vr 49 0), some (vi v), some (vi (nI q))] [] M3 K := by
      refine up_ind fun q hq ihq hτq => ?_
      refine atX10_nextWalk ?_
      have skip : q < p0 → ab_At miX10_nextWalk (d + 1) 53 [some (vr 49 0), some (vi v), some (vi (nI q + nI 1))] [] M3 K := by
        intro h
        have := ihq h (by omega)
        rw [← nI_1 q] at this
        exact this
      have hit : ∀ z, z < n → w z = q → q < p0 := fun z hz e => by
        rcases Nat.lt_or_ge q p0 with y | y
        · exact y
        · have : q = p0 := by omega
          subst this
          rcases Nat.lt_or_ge q (E 0) with y2 | y2
          · exact absurd e ((fre_use (p3 y2)).2 z hz)
          · have := hv.2.1 z hz
            omega
      -- what happens behind the search
      have fin : q = p0 → ((¬ nI q = v → ((v ≤ nI q → ab_At miX10_nextWalk (d + 1) 39 [some (vr 49 0), some (vi v)] [] (ab_sI (ab_sI (ab_sI M3 49 0 20 (M3.1 49 0 20 - nI 1)) 49 0 22 ((ab_sI M3 49 0 20 (M3.1 49 0 20 - nI 1)).1 63 0 (n - 1))) 49 0 21 ((ab_sI (ab_sI M3 49 0 20 (M3.1 49 0 20 - nI 1)) 49 0 22 ((ab_sI M3 49 0 20 (M3.1 49 0 20 - nI 1)).1 63 0 (n - 1))).1 49 0 21 &&& (ab_shl (nI 1) ((ab_sI M3 49 0 20 (M3.1 49 0 20 - nI 1)).1 63 0 (n - 1)) ^^^ -1))) K) ∧ (nI q < v → ab_At miX10_nextWalk (d + 1) 39 [some (vr 49 0), some (vi v)] [] (ab_sI (ab_sI (ab_sI (ab_sI M3 63 0 n (nI q)) 49 0 20 (M3.1 49 0 20 + nI 1)) 49 0 21 (M3.1 49 0 21 ||| ab_shl (nI 1) (nI q))) 49 0 22 (nI 0)) K))) ∧ (nI q = v → K (some (.inl 1)) (ab_sI (ab_sI M3 63 0 n (nI q)) 49 0 20 (M3.1 49 0 20 + nI 1)))) := by
        intro e
        subst e
        rw [hv9]
        refine ⟨fun z => ⟨fun y => ?_, fun y => ?_⟩, fun z => ?_⟩
        · have z := nne_use z
          have y := nle_use y
          rcases hr with ⟨a, b⟩ | ⟨a, b⟩ | ⟨a, b⟩
          · have e63 : M3.1 63 0 (n - 1) = nI (w (n - 1)) := c1 (n - 1) (by omega)
            have e63' : (ab_sI M3 49 0 20 (M3.1 49 0 20 - nI 1)).1 63 0 (n - 1) = nI (w (n - 1)) := e63
            rw [← hv9]
            refine ih (n - 1) w (w (n - 1) + 1) _ b (vld_pop hv) (frO_sI (frO_sI (frO_sI f3 (by omega)) (by omega)) (by omega)) ⟨fun j hj => c1 j (by omega), ?_, ?_, fun _ => ⟨w (n - 1), ?_, Or.inl rfl⟩⟩
            · show M3.1 49 0 20 - nI 1 = _
              rw [c2, pk_sub (by omega)]
            · rw [sI_eq, e63', nI_shl1 (by omega)]
              show M3.1 49 0 21 &&& _ = _
              rw [c3]
              exact bs_pop hn0 hv.2.2.1 (by omega)
            · exact e63'
          · omega
          · omega
        · have z := nne_use z
          have y := nlt_use y
          rcases hr with ⟨a, b⟩ | ⟨a, b⟩ | ⟨a, b⟩
          · omega
          · omega
          · rw [← hv9]
            refine ih (n + 1) (wst w n q) 0 _ b (vld_psh hv hn0 (p3 (by omega)) a) (frO_sI (frO_sI (frO_sI (frO_sI f3 (by omega)) (by omega)) (by omega)) (by omega)) ⟨fun j hj => ?_, ?_, ?_, fun _ => ⟨0, sI_eq, Or.inr ⟨rfl, rfl⟩⟩⟩
            · show (ab_sI M3 63 0 n (nI q)).1 63 0 j = _
              by_cases ej : j = n
              · subst ej; rw [sI_eq, wst_n]
              · rw [sI_k ej, wst_o ej]; exact c1 j (by omega)
            · show M3.1 49 0 20 + nI 1 = _
              rw [c2, nI_add]
            · show M3.1 49 0 21 ||| ab_shl (nI 1) (nI q) = _
              rw [c3, nI_shl1 (by omega)]
              exact bs_psh (by omega)
        · have z := neq_use z
          rcases hr with ⟨a, b⟩ | ⟨a, b⟩ | ⟨a, b⟩
          · omega
          · refine h1 _ (n + 1, wst w n q) b (frO_sI (frO_sI f3 (by omega)) (by omega)) ⟨fun j hj => ?_, ?_, ?_⟩
            · show (ab_sI M3 63 0 n (nI q)).1 63 0 j = nI (wst w n q j)
              have hj : j < n + 1 := hj
              by_cases ej : j = n
              · subst ej; rw [sI_eq, wst_n]
              · rw [sI_k ej, wst_o ej]; exact c1 j (by omega)
            · show M3.1 49 0 20 + nI 1 = nI (n + 1)
              rw [c2, nI_add]
            · show M3.1 49 0 21 = nI (bs (usd (wst w n q) n) 7)
              rw [c3]
              congr 1
              exact bs_cong (fun e _ => (usd_cong (fun k hk => wst_o (by omega))).symm)
          · omega
      refine And.intro (fun x => ?_) (fun x => ?_)
      · have x : nI (E 0 - 1) < nI q := by rw [← hv9]; exact x
        have x := nlt_use x
        obtain ⟨g1, g2⟩ := fin (by omega)
        refine And.intro (fun z => ?_) (fun z => ?_)
        · refine And.intro (fun y => ?_) (fun y => ?_)
          · refine ix_i (n - 1) (by show M3.1 49 0 20 - nI 1 = _; rw [c2, pk_sub (by omega)]) (show _ < 8 by omega) ?_
            exact (g1 z).1 y
          · refine ix_i n c2 (show _ < 8 by omega) ?_
            exact (g1 z).2 y
        · refine ix_i n c2 (show _ < 8 by omega) ?_
          exact g2 z
      · have x : nI q ≤ nI (E 0 - 1) := by rw [← hv9]; exact x
        have x := nle_use x
        have hbl := bs_lt (usd w n) 7
        have ebit : ab_shr (M3.1 49 0 21) (nI q) &&& nI 1 = nI (wb (bs (usd w n) 7) q) := by rw [c3]; exact nI_bit (by omega) (by omega)
        have ewb := bs_wb (usd w n) (n := 7) (e := q) (by omega)
        refine And.intro (fun y => ?_) (fun y => ?_)
        · have y : nI (wb (bs (usd w n) 7) q) = nI 1 := by rw [← ebit]; exact y
          have y := neq_use (a := wb (bs (usd w n) 7) q) (b := 1) y (by rcases wb_01 (bs (usd w n) 7) q with z | z <;> omega) (by omega)
          rw [ewb] at y
          have hu : usd w n q = true := by
            cases z : usd w n q
            · rw [z] at y; exact absurd y (by decide)
            · rfl
          obtain ⟨z, z1, z2⟩ := exb_iff.mp hu
          exact skip (hit z z1 (by simpa using z2))
        · have y : ¬ nI (wb (bs (usd w n) 7) q) = nI 1 := by rw [← ebit]; exact y
          have hu : usd w n q = false := by
            cases z : usd w n q
            · rfl
            · rw [ewb, z] at y; exact absurd rfl y
          refine ix_i (n - 1) (by rw [c2, pk_sub (by omega)]) (show _ < 8 by omega) ?_
          refine m_pathOf_e (X := w (n - 1)) (Y := q) (c1 (n - 1) (by omega)) rfl n3 hL (by omega) (by omega) (fun j hj _ hpm => ?_) (fun hpm => ?_)
          · have := hL.2.2.1
            refine And.intro (fun _ => ?_) (fun y => absurd y (nI_pos (by omega)))
            have eq : q = p0 := by
              rcases Nat.lt_or_ge q p0 with y | y
              · have := p4 q (by omega) y
                unfold fre at this
                rw [decide_eq_true hpm, hu] at this
                exact absurd this (by decide)
              · omega
            obtain ⟨g1, g2⟩ := fin eq
            refine And.intro (fun z => ?_) (fun z => ?_)
            · refine And.intro (fun y => ?_) (fun y => ?_)
              · refine ix_i (n - 1) (by show M3.1 49 0 20 - nI 1 = _; rw [c2, pk_sub (by omega)]) (show _ < 8 by omega) ?_
                exact (g1 z).1 y
              · refine ix_i n c2 (show _ < 8 by omega) ?_
                exact (g1 z).2 y
            · refine ix_i n c2 (show _ < 8 by omega) ?_
              exact g2 z
          · refine And.intro (fun y => absurd y (by decide)) (fun _ => ?_)
            refine skip ?_
            rcases Nat.lt_or_ge q p0 with y | y
            · exact y
            · have : q = p0 := by omega
              subst this
              have := (fre_use (p3 (by omega))).1
              omega
    have := key (τ + 1) hτp (Nat.le_refl _)
    rw [← nI_1 τ, ← t1] at this
    exact this
/-- before the next walk -/
def EO (E : Nat → Nat) (M : ab_M) (n : Nat) (w : Nat → Nat) (t : Nat) : Prop := (n = 1 ∧ RW M 1 w t) ∨ (trl E (n + 1) w ∧ RF M (n + 1) w ∧ t = E 0)
theorem m_nextWalk {n t k : Nat} {w : Nat → Nat} {r : Option (Nat × (Nat → Nat))} (hn : nwM M 54 0 E) (hL : wfL E) (h2 : 2 ≤ E 0) (hE : EO E M n w t) (hv : vld E n w) (hr : Run E k n w t r) (h1 : ∀ M' x, r = some x → frO M M' → RF M' x.1 x.2 → K (some (.inl 1)) M') (h0 : ∀ M', r = none → frO M M' → K (some (.inl 0)) M') : ab_Call (d + 1) 239 [vr 49 0] M K := by
  refine caX10_nextWalk rfl (atX10_nextWalk ?_)
  have w0 := hL.1
  have e9 : M.1 54 0 0 - nI 1 = nI (E 0 - 1) := by rw [nw hn (by omega), pk_sub (by omega)]
  rcases hE with ⟨rfl, hC⟩ | ⟨a, b, c⟩
  · have hw0 := hv.1
    have e63 : M.1 63 0 0 = nI 0 := by rw [hC.1 0 (by omega), hw0]
    refine ix_i 0 (by rw [hC.2.1]; rfl) (show 0 < 8 by omega) ?_
    refine And.intro (fun _ => ?_) (fun q => absurd q (by rw [e63, e9]; exact fun z => by have := neq_use (a := 0) z; omega))
    exact m_walkLoop hn hL h2 h1 h0 e9 k 1 w t M hr hv frO_refl hC
  · have hn1 := a.1
    have hn2 := a.2.1
    have e63 : M.1 63 0 n = nI (E 0 - 1) := by
      rw [b.1 n (by omega)]
      congr 1
      have := a.2.2.2.2.1
      rw [show n + 1 - 1 = n by omega] at this
      omega
    refine ix_i n (by rw [b.2.1, pk_sub (by omega), show n + 1 - 1 = n by omega]) (show n < 8 by omega) ?_
    refine And.intro (fun q => absurd (by rw [e63, e9]) q) (fun _ => ?_)
    refine m_walkLoop hn hL h2 h1 h0 e9 k n w t _ hr hv (frO_sI (frO_sI frO_refl (by omega)) (by omega)) ⟨fun j hj => b.1 j (by omega), ?_, ?_, fun _ => ⟨E 0 - 1, ?_, Or.inl (by omega)⟩⟩
    · show M.1 49 0 20 - nI 1 = _
      rw [b.2.1, pk_sub (by omega), show n + 1 - 1 = n by omega]
    · show M.1 49 0 21 = _
      rw [b.2.2, show n + 1 - 1 = n by omega]
    · rw [sI_eq]; exact e9
end Walk
