/-! ===== trails ===== -/
/-- the country, with neither head nor wind -/
def zD (D : Nat → Nat) : Nat → Nat := fun j => if j = 3 ∨ j = 77 then 0 else D j
theorem zD_o {D : Nat → Nat} {j : Nat} (h3 : j ≠ 3) (h77 : j ≠ 77) : zD D j = D j := if_neg (by omega)
theorem zD_eqL {D : Nat → Nat} : eqL D (zD D) := fun j hj => zD_o (by omega) (by omega)
theorem wf_zD {D : Nat → Nat} (hw : wf D) : wf (zD D) := by
  have hb := bnd_of hw
  obtain ⟨b3, b4, b5, b6, b7, b8⟩ := hb
  obtain ⟨hL, w3, w4, w5, w6, w7, w8, w9, w10, w11, w12⟩ := hw
  have hp := pm_cong (zD_eqL (D := D)) hL.2.2.1
  have lo : ∀ {j}, j ≠ 3 → j ≠ 77 → zD D j = D j := fun a b => zD_o a b
  refine ⟨wfL_cong zD_eqL hL, Nat.zero_le _, ?_, ?_, ?_, ?_, ?_, ?_, ?_, ?_, ?_⟩
  · rw [lo (show 4 ≠ 3 by omega) (by omega), lo (show 0 ≠ 3 by omega) (by omega), lo (show 46 ≠ 3 by omega) (by omega), lo (show 45 + D 4 ≠ 3 by omega) (by omega)]; exact w4
  · rw [lo (by omega) (by omega)]; exact w5
  · rw [lo (show 4 ≠ 3 by omega) (by omega), lo (show 5 ≠ 3 by omega) (by omega)]; exact w6
  · intro k hk
    rw [lo (show 4 ≠ 3 by omega) (by omega)] at hk
    rw [lo (show 46 + k ≠ 3 by omega) (by omega), lo (show 0 ≠ 3 by omega) (by omega)]; exact w7 k hk
  · intro i j hij hj
    rw [lo (show 4 ≠ 3 by omega) (by omega)] at hj
    rw [lo (show 46 + i ≠ 3 by omega) (by omega), lo (show 46 + j ≠ 3 by omega) (by omega)]; exact w8 i j hij hj
  · intro k hk
    rw [lo (show 4 ≠ 3 by omega) (by omega)] at hk
    rw [lo (show 46 + k ≠ 3 by omega) (by omega), lo (show 46 + k + 1 ≠ 3 by omega) (by omega), hp]; exact w9 k hk
  · intro e he
    rw [lo (show 5 ≠ 3 by omega) (by omega)] at he
    obtain ⟨k, k1, k2⟩ := w10 e he
    refine ⟨k, by rw [lo (show 4 ≠ 3 by omega) (by omega)]; exact k1, ?_⟩
    rw [lo (show 53 + e ≠ 3 by omega) (by omega), lo (show 61 + e ≠ 3 by omega) (by omega), lo (show 69 + e ≠ 3 by omega) (by omega), lo (show 46 + k ≠ 3 by omega) (by omega), lo (show 46 + k + 1 ≠ 3 by omega) (by omega), lo (show 0 ≠ 3 by omega) (by omega), hp]
    exact k2
  · intro e f hef hf
    rw [lo (show 5 ≠ 3 by omega) (by omega)] at hf
    rw [lo (show 53 + e ≠ 3 by omega) (by omega), lo (show 61 + e ≠ 3 by omega) (by omega), lo (show 53 + f ≠ 3 by omega) (by omega), lo (show 61 + f ≠ 3 by omega) (by omega)]
    exact w11 e f hef hf
  · exact Nat.two_pow_pos _
theorem EN_f {B w : Nat → Nat} {M : ab_M} {N : Nat} (h : trl B N w) (h2 : CF B M N w) : EN B M (N - 1) w (B 0) := by
  have := h.1
  refine Or.inr ⟨?_, ?_, rfl⟩
  · rw [show N - 1 + 1 = N by omega]; exact h
  · rw [show N - 1 + 1 = N by omega]; exact h2
theorem EO_f {B w : Nat → Nat} {M : ab_M} {N : Nat} (h : trl B N w) (h2 : RF M N w) : EO B M (N - 1) w (B 0) := by
  have := h.1
  refine Or.inr ⟨?_, ?_, rfl⟩
  · rw [show N - 1 + 1 = N by omega]; exact h
  · rw [show N - 1 + 1 = N by omega]; exact h2
section Trails
variable {d : Nat} {M : ab_M} {K : ab_K} {D : Nat → Nat}
theorem c_beginW (hK : ∀ M', frA M M' → M'.1 43 0 5 = nI 0 → EN (zD D) M' 1 (fun _ => 0) 0 → K none M') : ab_Call (d + 1) 98 [vr 43 0] M K := by
  refine caX8_begin rfl (atX8_begin ?_)
  refine caX1_startAnew rfl (atX1_startAnew ?_)
  refine hK _ ?_ rfl ?_
  · exact frA_sI (frA_sI (frA_sI (frA_sI (frA_sI (frA_sI (frA_sI (frA_sI frA_refl (by unfold scr; omega)) (by unfold scr; omega)) (by unfold scr; omega)) (by unfold scr; omega)) (by unfold scr; omega)) (by unfold scr; omega)) (by unfold scr; omega)) (by unfold scr; omega)
  · refine Or.inl ⟨rfl, ⟨⟨⟨?_, ?_, ?_, ?_, fun k hk => ?_, fun e he => absurd he (by rw [trD_5]; omega)⟩, fun k hk => by omega⟩, fun _ => ?_⟩⟩
    · rfl
    · rfl
    · rfl
    · rfl
    · have hk : k < 1 := hk
      have : k = 0 := by omega
      subst this
      rfl
    · rfl
theorem c_countAll (hl : ldC M 0 D) (hw : wf D) (h2 : 2 ≤ D 0) {L : List (Nat × (Nat → Nat))} (hL : L.length ≤ 70000) (hS : Sq D L 1 (fun _ => 0) 0) (hK : ∀ M', frA M M' → K (some (vi (nI L.length))) M') : ab_Call (d + 3) 95 [vr 43 0] M K := by
  refine ab_Call_nr (caX8_countAll rfl (atX8_countAll ?_))
  have hz := zD_eqL (D := D)
  have h12 := hw.1.2.2.1
  have key : ∀ (L' : List (Nat × (Nat → Nat))) (n : Nat) (w : Nat → Nat) (t many : Nat) (M3 : ab_M), Sq D L' n w t → vld D n w → many + L'.length = L.length → frA M M3 → EN (zD D) M3 n w t → ab_At miX8_countAll (d + 3) 6 [some (vr 43 0), some (vi (nI many))] [] M3 (fun r M => K (r.map ab_nr) M) := by
    intro L'
    induction L' with
    | nil =>
      intro n w t many M3 hS hv hm f3 hE
      obtain ⟨k, k1, k2⟩ := hS
      refine atX8_countAll ?_
      refine And.intro (fun q => absurd (nle_use (a := 100000) q) (by omega)) (fun _ => ?_)
      refine c_findNext (B := zD D) (ldC_cong hz hw.1 (frA_ld f3 hl)) (wf_zD hw) h2 hE (vld_cong hz h12 hv) (Run_cong hz h12 k2) k1 (fun M' x a => absurd a (by simp)) (fun M' _ f' => ?_)
      have := hK M' (frA_trans f3 (frN_A f'))
      rw [← hm] at this
      exact this
    | cons x L' ih =>
      intro n w t many M3 hS hv hm f3 hE
      obtain ⟨⟨k, k1, k2⟩, htr, hS⟩ := hS
      rw [List.length_cons] at hm
      refine atX8_countAll ?_
      refine And.intro (fun q => absurd (nle_use (a := 100000) q) (by omega)) (fun _ => ?_)
      refine c_findNext (B := zD D) (ldC_cong hz hw.1 (frA_ld f3 hl)) (wf_zD hw) h2 hE (vld_cong hz h12 hv) (Run_cong hz h12 k2) k1 (fun M' y a f' hC => ?_) (fun M' a => absurd a (by simp))
      have a : x = y := by simpa using a
      subst a
      have := ih (x.1 - 1) x.2 (D 0) (many + 1) M' hS (trl_vld htr) (by omega) (frA_trans f3 (frN_A f')) (EN_f (trl_cong hz h12 htr) hC)
      rw [← nI_1 many] at this
      exact this
  refine c_beginW (D := D) (fun M1 f1 _ hE => ?_)
  exact key L 1 (fun _ => 0) 0 0 M1 hS ⟨rfl, fun k _ => by show 0 + 1 < _; omega, fun i j a b => by omega, fun k hk => by omega⟩ (by omega) f1 hE
theorem m_firstWalk (hK : ∀ M', frO M M' → (∀ E, EO E M' 1 (fun _ => 0) 0) → K none M') : ab_Call d 238 [vr 49 0] M K := by
  refine caX10_firstWalk rfl (atX10_firstWalk ?_)
  refine hK _ (frO_sI (frO_sI (frO_sI (frO_sI frO_refl (by omega)) (by omega)) (by omega)) (by omega)) (fun E => Or.inl ⟨rfl, fun k hk => ?_, rfl, rfl, fun _ => ⟨0, rfl, Or.inr ⟨rfl, rfl⟩⟩⟩)
  have : k = 0 := by omega
  subst this
  rfl
theorem m_trails (hn : nwM M 54 0 D) (hw : wf D) (h2 : 2 ≤ D 0) {L : List (Nat × (Nat → Nat))} (hL : L.length ≤ 70000) (hS : Sq D L 1 (fun _ => 0) 0) (hK : ∀ M', frA M M' → K (some (vi (nI L.length))) M') : ab_Call (d + 2) 240 [vr 49 0] M K := by
  refine ab_Call_nr (caX10_trails rfl (atX10_trails ?_))
  have w0 := hw.1.1
  refine And.intro (fun _ => ?_) (fun q => absurd q (by rw [nw hn (by omega)]; exact fun z => by have := neq_use (b := 0) z; omega))
  have key : ∀ (L' : List (Nat × (Nat → Nat))) (n : Nat) (w : Nat → Nat) (t many : Nat) (M3 : ab_M), Sq D L' n w t → vld D n w → many + L'.length = L.length → frA M M3 → EO D M3 n w t → ab_At miX10_trails (d + 2) 18 [some (vr 49 0), some (vi (nI many))] [] M3 (fun r M => K (r.map ab_nr) M) := by
    intro L'
    induction L' with
    | nil =>
      intro n w t many M3 hS hv hm f3 hE
      obtain ⟨k, k1, k2⟩ := hS
      refine atX10_trails ?_
      refine m_nextWalk (frA_nw f3 (by omega) (by omega) hn) hw.1 h2 hE hv k2 (fun M' x a => absurd a (by simp)) (fun M' _ f' => ?_)
      have := hK M' (frA_trans f3 (frO_A f'))
      rw [← hm] at this
      exact this
    | cons x L' ih =>
      intro n w t many M3 hS hv hm f3 hE
      obtain ⟨⟨k, k1, k2⟩, htr, hS⟩ := hS
      rw [List.length_cons] at hm
      refine atX10_trails ?_
      refine m_nextWalk (frA_nw f3 (by omega) (by omega) hn) hw.1 h2 hE hv k2 (fun M' y a f' hC => ?_) (fun M' a => absurd a (by simp))
      have a : x = y := by simpa using a
      subst a
      have := ih (x.1 - 1) x.2 (D 0) (many + 1) M' hS (trl_vld htr) (by omega) (frA_trans f3 (frO_A f')) (EO_f htr hC)
      rw [← nI_1 many] at this
      exact this
  refine m_firstWalk (fun M1 f1 hE => ?_)
  exact key L 1 (fun _ => 0) 0 0 M1 hS ⟨rfl, fun k _ => by show 0 + 1 < _; omega, fun i j a b => by omega, fun k hk => by omega⟩ (by omega) (frO_A f1) (hE D)
theorem op_trails (hR : Rel M) : OpI (d + 4) 133 240 [] M := by
  obtain ⟨D, hw, hw2, hw3, hl, hc, hn, hk⟩ := Rel_D hR
  have w0 := hw.1.1
  rcases hw2 with h0 | h2
  · refine ab_Call_nr (caX9_trails rfl (atX9_trails (c_isBare1 hl h0 ?_)))
    refine ab_Call_nr (caX10_trails rfl (atX10_trails ?_))
    refine And.intro (fun q => absurd (by rw [nw hn (by omega), h0]) q) (fun _ => ?_)
    exact ⟨⟨_, rfl, rfl⟩, hR⟩
  · obtain ⟨L, hL, hS⟩ := Sq_all h2 w0
    refine ab_Call_nr (caX9_trails rfl (atX9_trails (c_isBare0 hl (by omega) w0 ?_)))
    refine c_countAll hl hw h2 hL hS (fun M1 f1 => ?_)
    refine m_trails (d := d + 2) (frA_nw f1 (by omega) (by omega) hn) hw h2 hL hS (fun M2 f2 => ?_)
    exact ⟨⟨_, rfl, rfl⟩, Rel_frA hR (frA_trans f1 f2)⟩
end Trails
