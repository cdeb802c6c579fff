/-! ===== left over ends ===== -/
def eqJ (D E : Nat → Nat) : Prop := ∀ j, ¬ junk (D 5) j → E j = D j
theorem nj_lo {n j : Nat} (h : j < 53) : ¬ junk n j := fun ⟨e, _, _, q⟩ => by omega
theorem nj_hi {n : Nat} : ¬ junk n 77 := fun ⟨e, _, _, q⟩ => by omega
theorem nj_e {n e : Nat} (h : e < n) (hn : n ≤ 8) : ¬ junk n (53 + e) ∧ ¬ junk n (61 + e) ∧ ¬ junk n (69 + e) := ⟨fun ⟨e', _, _, q⟩ => by omega, fun ⟨e', _, _, q⟩ => by omega, fun ⟨e', _, _, q⟩ => by omega⟩
theorem eqJ_L {D E : Nat → Nat} (h : eqJ D E) : eqL D E := fun j hj => h j (nj_lo (by omega))
theorem wf_junk {D E : Nat → Nat} (hw : wf D) (h : eqJ D E) : wf E := by
  have hb := bnd_of hw
  obtain ⟨b3, b4, b5, b6, b7, b8⟩ := hb
  obtain ⟨hL, w3, w4, w5, w6, w7, w8, w9, w10, w11, w12⟩ := hw
  have hp := pm_cong (eqJ_L h) hL.2.2.1
  have lo : ∀ {j}, j < 53 → E j = D j := fun hj => h _ (nj_lo hj)
  have en : ∀ {e}, e < D 5 → E (53 + e) = D (53 + e) ∧ E (61 + e) = D (61 + e) ∧ E (69 + e) = D (69 + e) := fun he => ⟨h _ (nj_e he b5).1, h _ (nj_e he b5).2.1, h _ (nj_e he b5).2.2⟩
  refine ⟨wfL_cong (eqJ_L h) hL, ?_, ?_, ?_, ?_, ?_, ?_, ?_, ?_, ?_, ?_⟩
  · rw [lo (by omega)]; exact w3
  · rw [lo (show 4 < 53 by omega), lo (show 0 < 53 by omega), lo (show 46 < 53 by omega), lo (show 45 + D 4 < 53 by omega)]; exact w4
  · rw [lo (by omega)]; exact w5
  · rw [lo (show 4 < 53 by omega), lo (show 5 < 53 by omega)]; exact w6
  · intro k hk
    rw [lo (show 4 < 53 by omega)] at hk
    rw [lo (show 46 + k < 53 by omega), lo (show 0 < 53 by omega)]; exact w7 k hk
  · intro i j hij hj
    rw [lo (show 4 < 53 by omega)] at hj
    rw [lo (show 46 + i < 53 by omega), lo (show 46 + j < 53 by omega)]; exact w8 i j hij hj
  · intro k hk
    rw [lo (show 4 < 53 by omega)] at hk
    rw [lo (show 46 + k < 53 by omega), lo (show 46 + k + 1 < 53 by omega), hp]; exact w9 k hk
  · intro e he
    rw [lo (show 5 < 53 by omega)] at he
    obtain ⟨e1, e2, e3⟩ := en he
    obtain ⟨k, k1, k2⟩ := w10 e he
    refine ⟨k, by rw [lo (show 4 < 53 by omega)]; exact k1, ?_⟩
    rw [e1, e2, e3, lo (show 46 + k < 53 by omega), lo (show 46 + k + 1 < 53 by omega), lo (show 0 < 53 by omega), hp]
    exact k2
  · intro e f hef hf
    rw [lo (show 5 < 53 by omega)] at hf
    obtain ⟨e1, e2, _⟩ := en (show e < D 5 by omega)
    obtain ⟨f1, f2, _⟩ := en hf
    rw [e1, e2, f1, f2]
    exact w11 e f hef hf
  · rw [h 77 nj_hi, lo (show 0 < 53 by omega)]; exact w12
theorem crC_junk {M : ab_M} {c : Nat} {D E : Nat → Nat} (hb : bnd D) (h : eqJ D E) (hc : crC M c D) : crC M c E := by
  obtain ⟨c1, c2, c3, c4, c5, c6⟩ := hc
  obtain ⟨b3, b4, b5, b6, b7, b8⟩ := hb
  have lo : ∀ {j}, j < 53 → E j = D j := fun hj => h _ (nj_lo hj)
  refine ⟨by rw [lo (by omega)]; exact c1, by rw [lo (by omega)]; exact c2, by rw [lo (by omega)]; exact c3, by rw [h 77 nj_hi]; exact c4, fun k hk => ?_, fun e he => ?_⟩
  · rw [lo (show 4 < 53 by omega)] at hk
    rw [lo (show 46 + k < 53 by omega)]
    exact c5 k hk
  · rw [lo (show 5 < 53 by omega)] at he
    rw [h _ (nj_e he b5).1, h _ (nj_e he b5).2.1, h _ (nj_e he b5).2.2]
    exact c6 e he
theorem nI_tn (x : Int32) : nI x.toBitVec.toNat = x := by
  apply Int32.toBitVec_inj.mp
  simp [nI]
theorem frJ_row {n g i : Nat} {M M' : ab_M} (h : frJ n M M') (hg : ∀ k, ¬ scr g i k) (h54 : g ≠ 54) : M'.1 g i = M.1 g i := by
  funext k
  exact h.1 g i k (hg k) (fun w => h54 w.1)
theorem Rel_junk {n : Nat} {M M' : ab_M} (hR : Rel M) (f : frJ n M M') (h5 : M.1 54 0 5 = nI n) (h8 : n ≤ 8) (h0 : ¬ M.1 54 0 0 = nI 0) : Rel M' := by
  obtain ⟨D, hw, hw2, hw3, hl, hc, hn, hk⟩ := Rel_D hR
  have hb := bnd_of hw
  have hn5 : n = D 5 := (nI_eq (by omega) (by have := hb.2.2.1; omega)).mp (h5.symm.trans (nw hn (by omega)))
  subst hn5
  have R : ∀ {g i : Nat}, (∀ k, ¬ scr g i k) → g ≠ 54 → M'.1 g i = M.1 g i := fun a b => frJ_row f a b
  let E : Nat → Nat := fun j => @ite _ (junk (D 5) j) (Classical.propDecidable _) (M'.1 54 0 j).toBitVec.toNat (D j)
  have hE : eqJ D E := fun j hj => by show @ite _ _ (Classical.propDecidable _) _ _ = _; rw [if_neg hj]
  have e0 : E 0 = D 0 := hE 0 (nj_lo (by omega))
  have hnE : nwM M' 54 0 E := by
    intro j hj
    by_cases q : junk (D 5) j
    · show _ = nI (@ite _ _ (Classical.propDecidable _) _ _)
      rw [if_pos q, nI_tn, Nat.zero_add]
    · rw [hE j q, ← hn j hj, Nat.zero_add]
      exact f.1 54 0 j (by unfold scr; omega) (fun w => q w.2.2)
  refine Rel_new (E := E) hR (rw_fr hR.1 (R (fun k => by unfold scr; omega) (by omega)) (by funext i; exact R (fun k => by unfold scr; omega) (by omega)) (R (fun k => by unfold scr; omega) (by omega)) (R (fun k => by unfold scr; omega) (by omega))) (tx_fr hR.2.1 (R (fun k => by unfold scr; omega) (by omega)) (by funext i; exact R (fun k => by unfold scr; omega) (by omega)) (R (fun k => by unfold scr; omega) (by omega)) (R (fun k => by unfold scr; omega) (by omega))) ?_ (R (fun k => by unfold scr; omega) (by omega)) (wf_junk hw hE) (by rw [e0]; exact hw2) (fun q k hk => ?_) (ldC_cong (eqJ_L hE) hw.1 (ldC_fr (R (fun k => by unfold scr; omega) (by omega)) (R (fun k => by unfold scr; omega) (by omega)) (fun x hx => R (fun k => by unfold scr; omega) (by omega)) hl)) (crC_junk hb hE (crC_fr ⟨R (fun k => by unfold scr; omega) (by omega), R (fun k => by unfold scr; omega) (by omega), R (fun k => by unfold scr; omega) (by omega), R (fun k => by unfold scr; omega) (by omega), R (fun k => by unfold scr; omega) (by omega)⟩ hc)) hnE ?_ ⟨f.2.2 49 0 27 (by omega) (by omega), f.2.2 49 0 28 (by omega) (by omega)⟩
  · obtain ⟨g1, g2, g3, g4, g5⟩ := hR.2.2.1
    refine ⟨?_, ?_, ?_, ?_, fun x x1 x5 => ?_⟩
    · rw [f.1 0 0 14 (by unfold scr; omega) (by omega), f.1 49 0 7 (by unfold scr; omega) (by omega)]; exact g1
    · rw [f.2.1 0 0 15 (by omega) (by omega), f.2.1 49 0 8 (by omega) (by omega)]; exact g2
    · rw [f.2.1 0 0 16 (by omega) (by omega), f.2.1 49 0 9 (by omega) (by omega)]; exact g3
    · rw [f.1 0 0 13 (by unfold scr; omega) (by omega), f.1 49 0 10 (by unfold scr; omega) (by omega)]; exact g4
    · rw [f.1 48 0 x (by unfold scr; omega) (by omega), f.1 57 0 x (by unfold scr; omega) (by omega)]; exact g5 x x1 x5
  · rw [e0] at q
    exact absurd (by rw [nw hn (by omega), q]) h0
  · intro i hi
    obtain ⟨a1, b1⟩ := kp_cong (eqJ_L hE) hk i hi
    rw [R (g := 20) (i := 0) (fun k => by unfold scr; omega) (by omega), R (g := 56) (i := 0) (fun k => by unfold scr; omega) (by omega)]
    refine ⟨a1, b1.imp (fun q => q) (fun q => ?_)⟩
    obtain ⟨q1, q2, F, q3, q4, q5, q6⟩ := q
    exact ⟨q1, q2, F, q3, q4, crC_fr ⟨R (fun k => by unfold scr; omega) (by omega), R (fun k => by unfold scr; omega) (by omega), R (fun k => by unfold scr; omega) (by omega), R (fun k => by unfold scr; omega) (by omega), R (fun k => by unfold scr; omega) (by omega)⟩ q5, nwM_fr (R (fun k => by unfold scr; omega) (by omega)) q6⟩
