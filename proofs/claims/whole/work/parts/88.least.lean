/-! ===== least ===== -/
theorem neg_toInt {a : Nat} (h : a < 2 ^ 30) : (-nI a).toInt = -(a : Int) := by
  rw [← Int32.zero_sub]
  have := pk_sub_toInt (a := 0) (b := a) (by omega) h
  rw [show nI 0 = 0 from rfl] at this
  rw [this]
  omega
/-- the worth of a walk -/
def vL (D : Nat → Nat) (x : Nat × (Nat → Nat)) : Int := -(vm D x : Int)
def vLi (D : Nat → Nat) (x : Nat × (Nat → Nat)) : Int32 := -nI (vm D x)
theorem vL_lt {D : Nat → Nat} (hL : wfL D) {x y : Nat × (Nat → Nat)} (hx : x.1 ≤ 7) (hy : y.1 ≤ 7) : vLi D x < vLi D y ↔ vL D x < vL D y := by
  have := vm_le hL hx
  have := vm_le hL hy
  unfold vLi vL
  rw [Int32.lt_iff_toInt_lt, neg_toInt (by omega), neg_toInt (by omega)]
section Least
variable {d : Nat} {M : ab_M} {K : ab_K} {D : Nat → Nat}
theorem c_findLeast (hl : ldC M 0 D) (hw : wf D) (h2 : 2 ≤ D 0) {L : List (Nat × (Nat → Nat))} (hL : L.length ≤ 70000) (hS : Sq D L 1 (fun _ => 0) 0) (h1 : ∀ M' x, frA M M' → bsf (vL D) L none = some x → kpC (vLi D) M' (some x) → K (some (.inl 1)) M') (h0 : ∀ M', frA M M' → bsf (vL D) L none = none → K (some (.inl 0)) M') : ab_Call (d + 3) 96 [vr 43 0] M K := by
  refine caX8_findLeast rfl (atX8_findLeast ?_)
  have hz := zD_eqL (D := D)
  have h12 := hw.1.2.2.1
  have w0 := hw.1.1
  have key : ∀ (L' : List (Nat × (Nat → Nat))) (b : Option (Nat × (Nat → Nat))) (n : Nat) (w : Nat → Nat) (t st : Nat) (M3 : ab_M), Sq D L' n w t → vld D n w → st + L'.length = L.length → bsf (vL D) L' b = bsf (vL D) L none → frA M M3 → EN (zD D) M3 n w t → kpC (vLi D) M3 b → ab_At miX8_findLeast (d + 3) 6 [some (vr 43 0), some (vi (nI st))] [] M3 K := by
    intro L'
    induction L' with
    | nil =>
      intro b n w t st M3 hS hv hm hb f3 hE hk
      obtain ⟨k, k1, k2⟩ := hS
      refine atX8_findLeast ?_
      refine And.intro (fun q => absurd (nle_use (a := 100000) q) (by omega)) (fun _ => ?_)
      refine c_findNext (B := zD D) (ldC_cong hz hw.1 (frA_ld f3 hl)) (wf_zD hw) h2 hE (vld_cong hz h12 hv) (Run_cong hz h12 k2) k1 (fun M' x a => absurd a (by simp)) (fun M' _ f' => ?_)
      have f4 := frA_trans f3 (frN_A f')
      have hk4 : kpC (vLi D) M' b := kpC_fr hk (by funext k; exact f'.2 43 0 k (by omega) (by omega) (by omega)) (by funext k; exact f'.2 45 0 k (by omega) (by omega) (by omega))
      cases b with
      | none =>
        have e5 : M'.1 43 0 5 = nI 0 := hk4
        refine And.intro (fun _ => ?_) (fun q => absurd q (by rw [e5]; decide))
        exact h0 M' f4 hb.symm
      | some x =>
        have e5 : M'.1 43 0 5 = nI x.1 := hk4.2.2.1
        have := hk4.1
        have := hk4.2.1
        refine And.intro (fun q => absurd q (by rw [e5]; exact fun z => by have := nle_use (b := 0) z; omega)) (fun _ => ?_)
        exact h1 M' x f4 hb.symm hk4
    | cons x L' ih =>
      intro b n w t st M3 hS hv hm hb f3 hE hk
      obtain ⟨⟨k, k1, k2⟩, htr, hS⟩ := hS
      rw [List.length_cons] at hm
      refine atX8_findLeast ?_
      refine And.intro (fun q => absurd (nle_use (a := 100000) q) (by omega)) (fun _ => ?_)
      refine c_findNext (B := zD D) (ldC_cong hz hw.1 (frA_ld f3 hl)) (wf_zD hw) h2 hE (vld_cong hz h12 hv) (Run_cong hz h12 k2) k1 (fun M' y a f' hC => ?_) (fun M' a => absurd a (by simp))
      have a : x = y := by simpa using a
      subst a
      have f4 := frA_trans f3 (frN_A f')
      have hx0 := htr.1
      have hx7 : x.1 ≤ 7 := by have := htr.2.1; omega
      have hk4 : kpC (vLi D) M' b := kpC_fr hk (by funext k; exact f'.2 43 0 k (by omega) (by omega) (by omega)) (by funext k; exact f'.2 45 0 k (by omega) (by omega) (by omega))
      have htz := trl_cong hz h12 htr
      refine c_last hC.1 (by rw [trD_4]; omega) ?_
      refine c_haresAt (D := trD (zD D) x.2 x.1) (ldC_cong trD_eqL (wf_zD hw).1 (ldC_cong hz hw.1 (frA_ld f4 hl))) hC.1 (bnd_w (wf_zD hw) hx7 (fun k hk => htz.2.2.1 k hk)) (Or.inr (by rw [trD_4]; omega)) ?_
      rw [trD_4, hrs_tr hz h12 (by omega)]
      have hnx : ∀ M5 b', bsf (vL D) L' b' = bsf (vL D) L none → frA M M5 → EN (zD D) M5 (x.1 - 1) x.2 (D 0) → kpC (vLi D) M5 b' → ab_At miX8_findLeast (d + 3) 6 [some (vr 43 0), some (vi (nI st + nI 1))] [] M5 K := by
        intro M5 b' a1 a2 a3 a4
        have := ih b' (x.1 - 1) x.2 (D 0) (st + 1) M5 hS (trl_vld htr) (by omega) a1 a2 a3 a4
        rw [← nI_1 st] at this
        exact this
      have hEN := EN_f htz hC
      refine c_weighW hC.1.2.1 (by rw [trD_4]; exact hx7) (fun q => ?_) (fun q1 q2 => ?_)
      · refine hnx (wgM M' (vLi D x) x.1) (some x) ?_ (frA_wg f4) (EN_fr hEN (fun g i g1 g2 _ => wg_o (by omega) (by omega)) (wg_o (by omega) (by omega))) (kpC_wg hC (by omega) hx7)
        cases b with
        | none => exact hb
        | some b =>
          rw [← hb, bsf, if_pos]
          rcases q with q | q
          · rw [hk4.2.2.1] at q
            have := neq_use (b := 0) q (by have := hk4.2.1; omega)
            have := hk4.1
            omega
          · rw [hk4.2.2.2.1] at q
            exact (vL_lt hw.1 hk4.2.1 hx7).mp q
      · refine hnx M' b ?_ f4 hEN hk4
        cases b with
        | none => exact absurd hk4 q1
        | some b =>
          rw [← hb, bsf, if_neg]
          rw [hk4.2.2.2.1] at q2
          intro z
          exact absurd q2 (i_not_le ((vL_lt hw.1 hk4.2.1 hx7).mpr z))
  refine c_beginW (D := D) (fun M1 f1 e5 hE => ?_)
  exact key L none 1 (fun _ => 0) 0 0 M1 hS ⟨rfl, fun k _ => by show 0 + 1 < _; omega, fun i j a b => by omega, fun k hk => by omega⟩ (by omega) rfl f1 hE e5
/-- the reference's least so far -/
def lsO (D : Nat → Nat) : Option (Nat × (Nat → Nat)) → Int32
  | none => -9
  | some b => nI (vm D b)
theorem m_least {r : Nat} (hr : r < 6) (hn : nwM M 54 0 D) (hw : wf D) (h2 : 2 ≤ D 0) {L : List (Nat × (Nat → Nat))} (hL : L.length ≤ 70000) (hS : Sq D L 1 (fun _ => 0) 0) (h1 : ∀ M' x, bsf (vL D) L none = some x → x.1 ≤ 7 → frR r M M' → (∀ g i k, ¬ scr g i k → g ≠ 50 → g ≠ 51 → M'.1 g i k = M.1 g i k) → M'.1 50 0 r = nI x.1 → (∀ k, k < x.1 → M'.1 51 0 (40 * r + k) = nI (x.2 k)) → K (some (vi (nI (vm D x)))) M') (h0 : ∀ M', frA M M' → bsf (vL D) L none = none → K (some (vi (-9))) M') : ab_Call (d + 5) 244 [vr 49 0, vi (nI r)] M K := by
  refine ab_Call_nr (caX10_least rfl (atX10_least ?_))
  have w0 := hw.1.1
  refine m_isRow1 hr ?_
  refine And.intro (fun _ => ?_) (fun q => absurd q (by rw [nw hn (by omega)]; exact fun z => by have := neq_use (b := 0) z; omega))
  have key : ∀ (L' : List (Nat × (Nat → Nat))) (b : Option (Nat × (Nat → Nat))) (n : Nat) (w : Nat → Nat) (t : Nat) (M3 : ab_M), Sq D L' n w t → vld D n w → bsf (vL D) L' b = bsf (vL D) L none → frA M M3 → EO D M3 n w t → kpM M3 b → ab_At miX10_least (d + 5) 28 [some (vr 49 0), some (vi (nI r)), some (vi (lsO D b))] [] M3 (fun r M => K (r.map ab_nr) M) := by
    intro L'
    induction L' with
    | nil =>
      intro b n w t M3 hS hv hb f3 hE hk
      obtain ⟨k, k1, k2⟩ := hS
      refine atX10_least ?_
      refine m_nextWalk (frA_nw f3 (by omega) (by omega) hn) hw.1 h2 hE hv k2 (fun M' x a => absurd a (by simp)) (fun M' _ f' => ?_)
      have f4 := frA_trans f3 (frO_A f')
      have hk4 : kpM M' b := kpM_fr hk (f'.2 49 0 24 (by omega) (by omega)) (by funext k; exact f'.2 64 0 k (by omega) (by omega))
      cases b with
      | none =>
        refine And.intro (fun q => absurd rfl q) (fun _ => ?_)
        exact h0 M' f4 hb.symm
      | some x =>
        have hx7 := hk4.2.1
        have hvm := vm_le hw.1 hx7
        refine And.intro (fun _ => ?_) (fun q => absurd q (n9 (k := vm D x) (by omega)))
        refine m_walkToRow hr hk4 (fun M5 f5 s50 s51 s6 => ?_)
        exact h1 M5 x hb.symm hx7 (frR_trans (frR_A f4) f5) (fun g i k q q1 q2 => by rw [s6 g i q1 q2]; exact f4.1 g i k q) s50 s51
    | cons x L' ih =>
      intro b n w t M3 hS hv hb f3 hE hk
      obtain ⟨⟨k, k1, k2⟩, htr, hS⟩ := hS
      refine atX10_least ?_
      refine m_nextWalk (frA_nw f3 (by omega) (by omega) hn) hw.1 h2 hE hv k2 (fun M' y a f' hC => ?_) (fun M' a => absurd a (by simp))
      have a : x = y := by simpa using a
      subst a
      have f4 := frA_trans f3 (frO_A f')
      have hx0 := htr.1
      have hx7 : x.1 ≤ 7 := by have := htr.2.1; omega
      have hvm := vm_le hw.1 hx7
      have hk4 : kpM M' b := kpM_fr hk (f'.2 49 0 24 (by omega) (by omega)) (by funext k; exact f'.2 64 0 k (by omega) (by omega))
      refine m_walkMinutes (frA_nw f4 (by omega) (by omega) hn) hw.1 hC htr ?_
      have take : bsf (vL D) L' (some x) = bsf (vL D) L none → ∀ {K' : ab_K}, (∀ M5, ab_At miX10_least (d + 5) 28 [some (vr 49 0), some (vi (nI r)), some (vi (nI (vm D x)))] [] M5 (fun r M => K (r.map ab_nr) M) → K' none M5) → ab_Call (d + 4) 242 [vr 49 0] M' K' := by
        intro hb' K' hK'
        refine m_keepWalk hC (by omega) hx7 (fun M5 f5 f6 hk5 => hK' M5 ?_)
        refine ih (some x) (x.1 - 1) x.2 (D 0) M5 hS (trl_vld htr) hb' ?_ (EO_f htr ⟨fun k hk => by rw [f6 63 0 k (by omega) (by omega)]; exact hC.1 k hk, by rw [f6 49 0 20 (by omega) (by omega)]; exact hC.2.1, by rw [f6 49 0 21 (by omega) (by omega)]; exact hC.2.2⟩) hk5
        refine frA_trans f4 ⟨fun g i k q => f6 g i k (fun z => q (by unfold scr; omega)) (fun z => q (by unfold scr; omega)), fun g i k _ _ => by rw [f5], fun g i k _ _ => by rw [f5]⟩
      cases b with
      | none =>
        refine And.intro (fun _ => ?_) (fun q => absurd rfl q)
        exact take hb (fun M5 h => h)
      | some b =>
        have hb7 := hk4.2.1
        have hvb := vm_le hw.1 hb7
        refine And.intro (fun q => absurd q (n9 (k := vm D b) (by omega))) (fun _ => ?_)
        rw [bsf] at hb
        refine And.intro (fun q => ?_) (fun q => ?_)
        · have q := nle_use (a := vm D b) (b := vm D x) q
          rw [if_neg (by unfold vL; omega)] at hb
          exact ih (some b) (x.1 - 1) x.2 (D 0) M' hS (trl_vld htr) hb f4 (EO_f htr hC) hk4
        · have q := nlt_use (a := vm D x) (b := vm D b) q
          rw [if_pos (by unfold vL; omega)] at hb
          exact take hb (fun M5 h => h)
  refine m_firstWalk (fun M1 f1 hE => ?_)
  exact key L none 1 (fun _ => 0) 0 M1 hS ⟨rfl, fun k _ => by show 0 + 1 < _; omega, fun i j a b => by omega, fun k hk => by omega⟩ rfl (frO_A f1) (hE D) trivial
theorem op_least {x : Int32} (hR : Rel M) : OpI (d + 6) 134 244 [vi x] M := by
  obtain ⟨D, hw, hw2, hw3, hl, hc, hn, hk⟩ := Rel_D hR
  have w0 := hw.1.1
  rcases ix_cases x (n := 6) (by omega) with ⟨r, hr, rfl⟩ | hx
  · rcases hw2 with h0 | h2
    · refine ab_Call_nr (caX9_least rfl (atX9_least (c_hasR1 hr (c_isBare1 hl h0 ?_))))
      refine ab_Call_nr (caX10_least rfl (atX10_least (m_isRow1 hr ?_)))
      refine And.intro (fun q => absurd (by rw [nw hn (by omega), h0]) q) (fun _ => ?_)
      exact ⟨⟨_, rfl, rfl⟩, hR⟩
    · obtain ⟨L, hL, hS⟩ := Sq_all h2 w0
      refine ab_Call_nr (caX9_least rfl (atX9_least (c_hasR1 hr (c_isBare0 hl (by omega) w0 ?_))))
      refine c_findLeast (d := d + 2) hl hw h2 hL hS (fun M1 y f1 hb hk1 => ?_) (fun M1 f1 hb => ?_)
      · obtain ⟨y0, y7, k5, k6, k45⟩ := hk1
        refine c_fill45 k5 hr y7 ?_
        generalize hM4 : ab_sC (ab_sI M1 4 0 r (nI y.1)) 45 0 0 3 r 0 y.1 = M4
        have f4 : frR r M M4 := by rw [← hM4]; exact frR_sC (frR_sI (frR_A f1) (Or.inl ⟨rfl, rfl, rfl⟩))
        have r4 : M4.1 4 0 r = nI y.1 := by rw [← hM4]; simp [ab_sC, ab_sI]
        have r3 : ∀ k, k < y.1 → M4.1 3 r k = nI (y.2 k) := by
          intro k hk
          rw [← hM4]
          show (if 3 = 3 ∧ r = r ∧ 0 ≤ k ∧ k < 0 + y.1 then (ab_sI M1 4 0 r (nI y.1)).1 45 0 (0 + (k - 0)) else _) = _
          rw [if_pos ⟨rfl, rfl, by omega, by omega⟩, sI_g (by omega), Nat.sub_zero, Nat.zero_add]
          exact k45 k hk
        have e6 : M4.1 43 0 6 = vLi D y := by
          rw [← hM4]
          show M1.1 43 0 6 = _
          exact k6
        have t4 : M4.1 0 0 14 = M4.1 49 0 7 := by
          rw [← hM4]
          show M1.1 0 0 14 = M1.1 49 0 7
          rw [f1.1 0 0 14 (by unfold scr; omega), f1.1 49 0 7 (by unfold scr; omega)]
          exact hR.2.2.1.1
        have hn4 := frR_nw f4 hn
        have ev : -M4.1 43 0 6 = nI (vm D y) := by rw [e6]; unfold vLi; rw [Int32.neg_neg]
        refine m_least (d := d + 1) hr hn4 hw h2 hL hS (fun M' y' hb' y7' f' g' s50 s51 => ?_) (fun M' _ hb' => absurd (hb.symm.trans hb') (by simp))
        have ey : y = y' := by have := hb.symm.trans hb'; simpa using this
        subst ey
        refine ⟨⟨-M4.1 43 0 6, rfl, by rw [ev]⟩, ?_⟩
        refine Rel_rows hR hr (n := y.1) (by omega) (frR_trans f4 f') ?_ s50 (fun k hk => ?_) ?_
        · rw [g' 4 0 r (by unfold scr; omega) (by omega) (by omega)]; exact r4
        · rw [g' 3 r k (by unfold scr; omega) (by omega) (by omega), r3 k hk, s51 k hk]
        · rw [g' 0 0 14 (by unfold scr; omega) (by omega) (by omega), g' 49 0 7 (by unfold scr; omega) (by omega) (by omega)]; exact t4
      · refine m_least (d := d + 1) hr (frA_nw f1 (by omega) (by omega) hn) hw h2 hL hS (fun M' y' hb' => absurd (hb.symm.trans hb') (by simp)) (fun M' f' _ => ?_)
        exact ⟨⟨_, rfl, rfl⟩, Rel_frA hR (frA_trans f1 f')⟩
  · refine ab_Call_nr (caX9_least rfl (atX9_least (c_hasR0 hx ?_)))
    refine ab_Call_nr (caX10_least rfl (atX10_least (m_isRow0 hx ?_)))
    exact ⟨⟨_, rfl, rfl⟩, hR⟩
end Least
