/-! ===== route: words, and the class ===== -/
theorem trl_isTr {D w : Nat → Nat} {n : Nat} (h7 : D 0 ≤ 7) (h : trl D n w) : isTr D (fun k => nI (w k)) n w := by
  obtain ⟨a, b, c, d, e, f, g⟩ := h
  exact ⟨a, by omega, fun k hk => ⟨rfl, c k hk⟩, d, e, f, g⟩
theorem mnv_cong {c c' : Nat → Nat} : ∀ {n : Nat}, (∀ i, i < n → c i = c' i) → mnv c n = mnv c' n
  | 0, _ => rfl
  | n + 1, h => by rw [mnv, mnv, mnv_cong (fun i hi => h i (by omega)), h n (by omega)]
/-- the lead on a trail -/
def vR (D : Nat → Nat) (x : Nat × (Nat → Nat)) : Int := (fmE (trD D x.2 x.1) : Int) - (hrs (trD D x.2 x.1) (x.1 - 1) : Int)
def vRi (D : Nat → Nat) (x : Nat × (Nat → Nat)) : Int32 := nI (fmE (trD D x.2 x.1)) - nI (hrs (trD D x.2 x.1) (x.1 - 1))
theorem tr_eq {D E w : Nat → Nat} {N : Nat} (h : eqL D E) (h2 : D 2 ≤ 12) (h3 : E 3 = D 3) (h77 : E 77 = D 77) (hN : N ≤ 7) (j : Nat) (hj : j + 1 < N) : ck (trD E w N) j = ck (trD D w N) j ∧ sg (trD E w N) j = sg (trD D w N) j ∧ ∀ q, lo (trD E w N) q j = lo (trD D w N) q j := by
  have e2 : E 2 = D 2 := h 2 (by omega)
  have ew : wy (trD E w N) j = wy (trD D w N) j := by
    unfold wy
    rw [trD_t (by omega), trD_t (by omega), trD_o (by omega) (by omega) (by omega), trD_o (by omega) (by omega) (by omega), h77]
  have ec : ck (trD E w N) j = ck (trD D w N) j := by
    unfold ck
    rw [ew, trD_4, trD_4, trD_5, trD_5]
    rfl
  refine ⟨ec, ?_, fun q => ?_⟩
  · unfold sg
    rw [trD_t (by omega), trD_t (by omega), show 46 + j + 1 = 46 + (j + 1) by omega, trD_t (by omega), trD_t (by omega), pm_cong trD_eqL (by omega), pm_cong trD_eqL (by omega), pm_cong h h2]
  · unfold lo los
    rw [ec, ew, trD_5, trD_5]
    rfl
theorem vR_eq {D E w : Nat → Nat} {N : Nat} (h : eqL D E) (hL : wfL D) (h3 : E 3 = D 3) (h77 : E 77 = D 77) (hN : N ≤ 7) : fmE (trD E w N) = fmE (trD D w N) ∧ hrs (trD E w N) (N - 1) = hrs (trD D w N) (N - 1) := by
  have e1 : E 1 = D 1 := h 1 (by omega)
  have h4 : D 1 ≤ 4 := hL.2.1
  have x1 : trD E w N 1 = trD D w N 1 := by rw [trD_o (by omega) (by omega) (by omega), trD_o (by omega) (by omega) (by omega), e1]
  have hq := fun j (hj : j < N - 1) => tr_eq (w := w) h hL.2.2.1 h3 h77 hN j (by omega)
  constructor
  · unfold fmE
    rw [x1, trD_4, trD_4]
    have hD1 : trD D w N 1 = D 1 := trD_o (by omega) (by omega) (by omega)
    refine mnv_cong (fun i hi => ?_)
    exact cmv_gen (fun k hk => by
      unfold kds
      rw [trD_o (by omega) (by omega) (by omega), trD_o (by omega) (by omega) (by omega)]
      exact h (6 + k) (by omega)) (by rw [trD_o (by omega) (by omega) (by omega), trD_o (by omega) (by omega) (by omega), h3]) (N - 1) hq i hi
  · exact sm_cong (fun j hj => (hq j hj).2.1)
theorem vR_lim {D : Nat → Nat} (hw : wf D) (h1 : 0 < D 1) {x : Nat × (Nat → Nat)} (ht : trl D x.1 x.2) : fmE (trD D x.2 x.1) < 1000 ∧ hrs (trD D x.2 x.1) (x.1 - 1) < 1000 := by
  have w0 := hw.1.1
  have hwt := wf_tr hw (trl_isTr w0 ht)
  have := ht.2.1
  have a := hrs_le hwt.1 (x.1 - 1)
  exact ⟨fmE_le hwt (by rw [trD_o (by omega) (by omega) (by omega)]; exact h1), by omega⟩
theorem vR_lt {D : Nat → Nat} (hw : wf D) (h1 : 0 < D 1) {x y : Nat × (Nat → Nat)} (hx : trl D x.1 x.2) (hy : trl D y.1 y.2) : vRi D x < vRi D y ↔ vR D x < vR D y := by
  have a := vR_lim hw h1 hx
  have b := vR_lim hw h1 hy
  unfold vRi vR
  rw [Int32.lt_iff_toInt_lt, pk_sub_toInt (by omega) (by omega), pk_sub_toInt (by omega) (by omega)]
section RouteC
variable {d : Nat} {M : ab_M} {K : ab_K} {D : Nat → Nat}
theorem c_beginR (hK : ∀ M', frA M M' → M'.1 43 0 5 = nI 0 → CW (zD D) M' 1 (fun _ => 0) 0 → K none M') : ab_Call (d + 1) 98 [vr 43 0] M K := by
  refine c_beginW (D := D) (fun M1 f1 e1 hE => hK M1 f1 e1 ?_)
  rcases hE with ⟨_, b⟩ | ⟨a, _, _⟩
  · exact b
  · exact absurd rfl (a.2.2.2.2.2.1 0 1 (by omega) (by omega))
theorem c_findFurthest (hl : ldC M 0 D) (hc : crC M 0 D) (hw : wf D) (h2 : 2 ≤ D 0) (hH : 0 < D 1) {L : List (Nat × (Nat → Nat))} (hL : L.length ≤ 70000) (hS : Sq D L 1 (fun _ => 0) 0) (h1 : ∀ M' x, frA M M' → bsf (vR D) L none = some x → trl D x.1 x.2 → kpC (vRi D) M' (some x) → K (some (.inl 1)) M') (h0 : ∀ M', frA M M' → bsf (vR D) L none = none → K (some (.inl 0)) M') : ab_Call (d + 4) 97 [vr 43 0, vr 14 0] M K := by
  refine caX8_findFurthest rfl (atX8_findFurthest ?_)
  have h12 := hw.1.2.2.1
  have w0 := hw.1.1
  have w1 := hw.1.2.1
  have key : ∀ (L' : List (Nat × (Nat → Nat))) (b : Option (Nat × (Nat → Nat))) (n : Nat) (w : Nat → Nat) (t st : Nat) (M3 : ab_M), Sq D L' n w t → vld D n w → st + L'.length = L.length → bsf (vR D) L' b = bsf (vR D) L none → (∀ y, b = some y → trl D y.1 y.2) → frA M M3 → EN D M3 n w t → hdC M3 (D 1) (kds D) → kpC (vRi D) M3 b → ab_At miX8_findFurthest (d + 4) 39 [some (vr 43 0), none, some (vi (nI st))] [] M3 K := by
    intro L'
    induction L' with
    | nil =>
      intro b n w t st M3 hS hv hm hb hbt f3 hE hd hk
      obtain ⟨k, k1, k2⟩ := hS
      refine atX8_findFurthest ?_
      refine And.intro (fun q => absurd (nle_use (a := 100000) q) (by omega)) (fun _ => ?_)
      refine c_findNext (B := D) (frA_ld f3 hl) hw h2 hE hv k2 k1 (fun M' x a => absurd a (by simp)) (fun M' _ f' => ?_)
      have f4 := frA_trans f3 (frN_A f')
      have hk4 : kpC (vRi D) M' b := kpC_fr hk (by funext k; exact f'.2 43 0 k (by omega) (by omega) (by omega)) (by funext k; exact f'.2 45 0 k (by omega) (by omega) (by omega))
      cases b with
      | none =>
        have e5 : M'.1 43 0 5 = nI 0 := hk4
        refine And.intro (fun _ => ?_) (fun q => absurd q (by rw [e5]; decide))
        exact h0 M' f4 hb.symm
      | some x =>
        have e5 : M'.1 43 0 5 = nI x.1 := hk4.2.2.1
        have := hk4.1
        have := hk4.2.1
        refine And.intro (fun q => absurd q (by rw [e5]; exact fun z => by have := nle_use (b := 0) z; omega)) (fun _ => ?_)
        exact h1 M' x f4 hb.symm (hbt x rfl) hk4
    | cons x L' ih =>
      intro b n w t st M3 hS hv hm hb hbt f3 hE hd hk
      obtain ⟨⟨k, k1, k2⟩, htr, hS⟩ := hS
      rw [List.length_cons] at hm
      refine atX8_findFurthest ?_
      refine And.intro (fun q => absurd (nle_use (a := 100000) q) (by omega)) (fun _ => ?_)
      refine c_findNext (B := D) (frA_ld f3 hl) hw h2 hE hv k2 k1 (fun M' y a f' hC => ?_) (fun M' a => absurd a (by simp))
      have a : x = y := by simpa using a
      subst a
      have f4 := frA_trans f3 (frN_A f')
      have hx0 := htr.1
      have hx7 : x.1 ≤ 7 := by have := htr.2.1; omega
      have hwt := wf_tr hw (trl_isTr w0 htr)
      have x1 : trD D x.2 x.1 1 = D 1 := trD_o (by omega) (by omega) (by omega)
      have xk : ∀ i, i < D 1 → kds (trD D x.2 x.1) i = kds D i := fun i hi => trD_o (by omega) (by omega) (by omega)
      have g43 : ∀ {g}, g ≠ 44 → g ≠ 15 → g ≠ 14 → ∀ i, M'.1 g i = M3.1 g i := fun a b c i => by funext k; exact f'.2 _ i k a (by omega) (by omega)
      have hd4 : hdC M' (trD D x.2 x.1 1) (kds (trD D x.2 x.1)) := by
        unfold hdC at hd ⊢
        rw [g43 (g := 21) (by omega) (by omega) (by omega), g43 (g := 22) (by omega) (by omega) (by omega), g43 (g := 23) (by omega) (by omega) (by omega), x1]
        exact ⟨hd.1, fun i hi => by rw [xk i hi]; exact hd.2 i hi⟩
      refine c_pursueAll (D := trD D x.2 x.1) (ldC_cong trD_eqL hw.1 (frA_ld f4 hl)) hC.1 hwt hd4 hwt.1.2.1 (fun i hi => hwt.1.2.2.2.1 i hi) (fun M5 f5 hO => ?_)
      refine c_lead hwt hO (by rw [trD_4]; omega) (by rw [x1]; exact hH) hwt.1.2.1 (fun f hf => ?_)
      have efm : cmv (trD D x.2 x.1) (trD D x.2 x.1 1) (kds (trD D x.2 x.1)) (trD D x.2 x.1 4 - 1) f = fmE (trD D x.2 x.1) := fst1_mn hf (by have := cmv_le hwt (H := trD D x.2 x.1 1) (kd := kds (trD D x.2 x.1)) (i := f) (trD D x.2 x.1 4 - 1); have := (bnd_of hwt).2.1; omega)
      rw [efm, trD_4]
      have f6 := frA_trans f4 (frA_S f5 (by omega))
      have hC5 : CF D M5 x.1 x.2 := ⟨frS_cr f5 (by omega) hC.1, fun k hk => by rw [f5.2 44 0 (by omega)]; exact hC.2 k hk⟩
      have hd5 : hdC M5 (D 1) (kds D) := ⟨by have := hO.1.1.1; rw [x1] at this; exact this, fun i hi => by have := hO.1.1.2 i (by rw [x1]; exact hi); rw [xk i hi] at this; exact this⟩
      have hk5 : kpC (vRi D) M5 b := kpC_fr (kpC_fr hk (g43 (by omega) (by omega) (by omega) 0) (g43 (by omega) (by omega) (by omega) 0)) (f5.2 43 0 (by omega)) (f5.2 45 0 (by omega))
      have hnx : ∀ M7 b', bsf (vR D) L' b' = bsf (vR D) L none → (∀ y, b' = some y → trl D y.1 y.2) → frA M M7 → EN D M7 (x.1 - 1) x.2 (D 0) → hdC M7 (D 1) (kds D) → kpC (vRi D) M7 b' → ab_At miX8_findFurthest (d + 4) 39 [some (vr 43 0), none, some (vi (nI st + nI 1))] [] M7 K := by
        intro M7 b' a1 a2 a3 a4 a5 a6
        have := ih b' (x.1 - 1) x.2 (D 0) (st + 1) M7 hS (trl_vld htr) (by omega) a1 a2 a3 a4 a5 a6
        rw [← nI_1 st] at this
        exact this
      have hEN := EN_f htr hC5
      refine c_weighW (v := vRi D x) hC5.1.2.1 (by rw [trD_4]; exact hx7) (fun q => ?_) (fun q1 q2 => ?_)
      · refine hnx (wgM M5 (vRi D x) x.1) (some x) ?_ (fun y hy => (Option.some.inj hy) ▸ htr) (frA_wg f6) (EN_fr hEN (fun g i g1 g2 _ => wg_o (by omega) (by omega)) (wg_o (by omega) (by omega))) ?_ (kpC_wg hC5 (by omega) hx7)
        · cases b with
          | none => exact hb
          | some b =>
            rw [← hb, bsf, if_pos]
            rcases q with q | q
            · rw [hk5.2.2.1] at q
              have := neq_use (b := 0) q (by have := hk5.2.1; omega)
              have := hk5.1
              omega
            · rw [hk5.2.2.2.1] at q
              exact (vR_lt hw hH (hbt b rfl) htr).mp q
        · unfold hdC at hd5 ⊢
          rw [wg_o (g := 21) (by omega) (by omega), wg_o (g := 22) (by omega) (by omega), wg_o (g := 23) (by omega) (by omega)]
          exact hd5
      · refine hnx M5 b ?_ hbt f6 hEN hd5 hk5
        cases b with
        | none => exact absurd hk5 q1
        | some b =>
          rw [← hb, bsf, if_neg]
          rw [hk5.2.2.2.1] at q2
          intro z
          exact absurd q2 (i_not_le ((vR_lt hw hH (hbt b rfl) htr).mpr z))
  refine c_beginR (D := D) (fun M1 f1 e5 hE => ?_)
  have hc1 := frA_cr f1 (by omega) hc
  have fA2 : frA M (ab_sI (ab_sI M1 14 4 0 (M1.1 14 0 0)) 14 4 3 ((ab_sI M1 14 4 0 (M1.1 14 0 0)).1 14 0 3)) := frA_sI (frA_sI f1 (by unfold scr; omega)) (by unfold scr; omega)
  have hE2 : EN D (ab_sI (ab_sI M1 14 4 0 (M1.1 14 0 0)) 14 4 3 ((ab_sI M1 14 4 0 (M1.1 14 0 0)).1 14 0 3)) 1 (fun _ => 0) 0 := by
    refine Or.inl ⟨rfl, ⟨⟨⟨?_, ?_, ?_, ?_, fun k hk => ?_, fun e he => absurd he (by rw [trD_5]; omega)⟩, fun k hk => by omega⟩, fun _ => hE.2 (by omega)⟩⟩
    · rw [sI_k (by omega), sI_eq, trD_o (by omega) (by omega) (by omega)]; exact hc1.1
    · rw [sI_k (by omega), sI_k (by omega)]; exact hE.1.1.2.1
    · rw [sI_k (by omega), sI_k (by omega)]; exact hE.1.1.2.2.1
    · rw [sI_eq, trD_o (by omega) (by omega) (by omega), sI_i (by omega)]; exact hc1.2.2.2.1
    · have hk : k < 1 := hk
      have := hE.1.1.2.2.2.2.1 k hk
      rw [trD_t hk] at this ⊢
      exact this
  refine c_gather (frA_ld fA2 hl) hw.1 (fun M2 g1 g2 => ?_)
  refine key L none 1 (fun _ => 0) 0 0 M2 hS ⟨rfl, fun k _ => by show 0 + 1 < _; omega, fun i j a b => by omega, fun k hk => by omega⟩ (by omega) rfl (fun y hy => absurd hy (by simp)) (frA_trans fA2 (frA_S g1 (by omega))) (EN_fr hE2 (fun g i a b _ => g1.2 g i (by omega)) (g1.2 44 0 (by omega))) g2 ?_
  show M2.1 43 0 5 = nI 0
  rw [g1.2 43 0 (by omega)]
  exact e5
end RouteC
