/-! ===== what no call leaves behind ===== -/
def scr (g i k : Nat) : Prop := (21 ≤ g ∧ g ≤ 47) ∨ g = 13 ∨ (58 ≤ g ∧ g ≤ 67) ∨ (14 ≤ g ∧ g ≤ 18 ∧ i = 4) ∨ ((g = 9 ∨ g = 10) ∧ i = 1) ∨ (g = 12 ∧ 7 ≤ i) ∨ (g = 49 ∧ k ≠ 7 ∧ k ≠ 10)
def frA (M M' : ab_M) : Prop := (∀ g i k, ¬ scr g i k → M'.1 g i k = M.1 g i k) ∧ (∀ g i k, g ≠ 46 → g ≠ 67 → M'.2.1 g i k = M.2.1 g i k) ∧ ∀ g i k, g ≠ 13 → g ≠ 72 → M'.2.2 g i k = M.2.2 g i k
theorem frA_refl {M : ab_M} : frA M M := ⟨fun _ _ _ _ => rfl, fun _ _ _ _ _ => rfl, fun _ _ _ _ _ => rfl⟩
theorem frA_trans {M M' M'' : ab_M} (h : frA M M') (h2 : frA M' M'') : frA M M'' := ⟨fun g i k q => (h2.1 g i k q).trans (h.1 g i k q), fun g i k q q2 => (h2.2.1 g i k q q2).trans (h.2.1 g i k q q2), fun g i k q q2 => (h2.2.2 g i k q q2).trans (h.2.2 g i k q q2)⟩
theorem frA_S {a b : Nat} {M M' : ab_M} (h : frS a b M M') (hab : (21 ≤ a ∧ b ≤ 47) ∨ (58 ≤ a ∧ b ≤ 67)) : frA M M' :=
  ⟨fun g i k q => by rw [h.2 g i (fun w => q (by unfold scr; omega))], fun g i k _ _ => by rw [h.1], fun g i k _ _ => by rw [h.1]⟩
theorem frA_sI {g i k : Nat} {v : Int32} {M M' : ab_M} (h : frA M M') (hs : scr g i k) : frA M (ab_sI M' g i k v) :=
  ⟨fun a b c q => by rw [sI_ne (fun w => q (by rw [w.1, w.2.1, w.2.2]; exact hs))]; exact h.1 a b c q, h.2.1, h.2.2⟩
theorem frA_row {g i : Nat} {M M' : ab_M} (h : frA M M') (hg : ∀ k, ¬ scr g i k) : M'.1 g i = M.1 g i := by
  funext k
  exact h.1 g i k (hg k)
theorem frA_ld {M M' : ab_M} {D : Nat → Nat} (h : frA M M') (hl : ldC M 0 D) : ldC M' 0 D :=
  ldC_fr (frA_row h (fun k => by unfold scr; omega)) (frA_row h (fun k => by unfold scr; omega)) (fun x hx => frA_row h (fun k => by unfold scr; omega)) hl
theorem frA_cr {M M' : ab_M} {c : Nat} {D : Nat → Nat} (h : frA M M') (hc4 : c < 4) (hc : crC M c D) : crC M' c D :=
  crC_fr ⟨frA_row h (fun k => by unfold scr; omega), frA_row h (fun k => by unfold scr; omega), frA_row h (fun k => by unfold scr; omega), frA_row h (fun k => by unfold scr; omega), frA_row h (fun k => by unfold scr; omega)⟩ hc
theorem frA_nw {M M' : ab_M} {g o : Nat} {D : Nat → Nat} (h : frA M M') (hg : 50 ≤ g) (hg2 : g ≤ 57) (hn : nwM M g o D) : nwM M' g o D :=
  nwM_fr (frA_row h (fun k => by unfold scr; omega)) hn
theorem frA_D {M M' : ab_M} (h : frA M M') : frD M M' :=
  ⟨frA_row h (fun k => by unfold scr; omega), frA_row h (fun k => by unfold scr; omega), fun x hx => frA_row h (fun k => by unfold scr; omega), fun c hc => ⟨frA_row h (fun k => by unfold scr; omega), frA_row h (fun k => by unfold scr; omega), frA_row h (fun k => by unfold scr; omega), frA_row h (fun k => by unfold scr; omega), frA_row h (fun k => by unfold scr; omega)⟩, frA_row h (fun k => by unfold scr; omega), frA_row h (fun k => by unfold scr; omega), frA_row h (fun k => by unfold scr; omega), frA_row h (fun k => by unfold scr; omega)⟩
theorem frA_rw {M M' : ab_M} (h : frA M M') (hr : rw_ok M) : rw_ok M' :=
  rw_fr hr (frA_row h (fun k => by unfold scr; omega)) (by funext i; exact frA_row h (fun k => by unfold scr; omega)) (frA_row h (fun k => by unfold scr; omega)) (frA_row h (fun k => by unfold scr; omega))
theorem frA_tx {M M' : ab_M} (h : frA M M') (hr : tx_ok M) : tx_ok M' :=
  tx_fr hr (frA_row h (fun k => by unfold scr; omega)) (by funext i; exact frA_row h (fun k => by unfold scr; omega)) (frA_row h (fun k => by unfold scr; omega)) (frA_row h (fun k => by unfold scr; omega))
theorem Rel_frA {M M' : ab_M} (hR : Rel M) (h : frA M M') : Rel M' := by
  refine Rel_of hR (frA_rw h hR.1) (frA_tx h hR.2.1) ?_ (frA_row h (fun k => by unfold scr; omega)) (frA_D h) ⟨h.2.2 49 0 27 (by omega) (by omega), h.2.2 49 0 28 (by omega) (by omega)⟩
  obtain ⟨h1, h2, h3, h4, h5⟩ := hR.2.2.1
  refine ⟨?_, ?_, ?_, ?_, fun f f1 f5 => ?_⟩
  · rw [h.1 0 0 14 (by unfold scr; omega), h.1 49 0 7 (by unfold scr; omega)]; exact h1
  · rw [h.2.1 0 0 15 (by omega) (by omega), h.2.1 49 0 8 (by omega) (by omega)]; exact h2
  · rw [h.2.1 0 0 16 (by omega) (by omega), h.2.1 49 0 9 (by omega) (by omega)]; exact h3
  · rw [h.1 0 0 13 (by unfold scr; omega), h.1 49 0 10 (by unfold scr; omega)]; exact h4
  · rw [h.1 48 0 f (by unfold scr; omega), h.1 57 0 f (by unfold scr; omega)]; exact h5 f f1 f5
section Pursue
variable {d : Nat} {M : ab_M} {K : ab_K} {D : Nat → Nat}
theorem c_pursue (hl : ldC M 0 D) (hc : crC M 0 D) (hw : wf D) (hK : ∀ M', frS 21 38 M M' → chO D (D 1) (kds D) M' → K none M') : ab_Call (d + 4) 156 [vr 0 0] M K := by
  refine caX9_pursue rfl (atX9_pursue ?_)
  refine c_gather hl hw.1 (fun M1 f1 h1 => ?_)
  refine c_pursueAll (frS_ld f1 (by omega) hl) (frS_cr f1 (by omega) hc) hw h1 hw.1.2.1 (fun i hi => hw.1.2.2.2.1 i hi) (fun M2 f2 h2 => ?_)
  exact hK M2 (frS_trans (frS_mono f1 (by omega) (by omega)) f2) h2
/-- what hound tells -/
def tv (D : Nat → Nat) (i w : Nat) : Int32 := if w = 0 then nI (kds D i) else if D 4 = 0 then (if w = 1 then -9 else nI 0) else if w = 1 then nI (cmv D (D 1) (kds D) (D 4 - 1) i) else nI (sm (lsf D (D 1) (kds D) i) (D 4 - 1))
theorem c_ofHound {i w : Nat} (hl : ldC M 0 D) (hc : crC M 0 D) (hw : wf D) (hi : i < D 1) (hw2 : w ≤ 2) (hO : w = 0 ∨ chO D (D 1) (kds D) M) (hK : K (some (vi (tv D i w))) M) : ab_Call (d + 1) 157 [vr 0 0, vi (nI i), vi (nI w)] M K := by
  refine ab_Call_nr (caX9_ofHound rfl (atX9_ofHound ?_))
  have w1 : D 1 ≤ 4 := hw.1.2.1
  have hb := bnd_of hw
  have h4 : D 4 ≤ 7 := hb.2.1
  unfold tv at hK
  refine And.intro (fun q => ?_) (fun q => ?_)
  · have q := nne_use q
    rw [if_neg q] at hK
    have hO := hO.resolve_left q
    rcases Nat.eq_zero_or_pos (D 4) with z | z
    · rw [if_pos z] at hK
      refine c_isLaid0 hc z ?_
      refine And.intro (fun q2 => ?_) (fun q2 => ?_)
      · rw [if_neg (nne_use q2)] at hK
        exact hK
      · rw [if_pos (neq_use q2)] at hK
        exact hK
    · rw [if_neg (by omega)] at hK
      refine c_isLaid1 hc hb z ?_
      refine And.intro (fun q2 => ?_) (fun q2 => ?_)
      · rw [if_neg (nne_use q2), ← (hO.2.2.2.2.2 i hi).1] at hK
        refine ix_i i rfl (show i < 4 by omega) ?_
        exact hK
      · rw [if_pos (neq_use q2), ← hO.2.2.1 i hi (D 4 - 1) (by omega) (Nat.le_refl _)] at hK
        refine ix_i i rfl (show i < 4 by omega) ?_
        refine c_last hc z ?_
        refine ix_i (D 4 - 1) rfl (show _ < 7 by omega) ?_
        exact hK
  · have q := neq_use q
    rw [if_pos q] at hK
    refine ix_i i rfl (show i < 4 by omega) ?_
    have e : M.1 10 0 i = nI (kds D i) := hl.2.2.2.1 i hi
    rw [← e] at hK
    exact hK
theorem lvv_sub {i j : Nat} {H : Nat} {kd : Nat → Nat} : nI (lvv D H kd j (cmv D H kd j) i) - nI (cmv D H kd j i) = nI (lsf D H kd i j) := by
  have : lvv D H kd j (cmv D H kd j) i = cmv D H kd j i + lsf D H kd i j := rfl
  rw [this, pk_sub (by omega), Nat.add_sub_cancel_left]
theorem m_inn {i : Nat} (hn : nwM M 54 0 D) (hw : wf D) (hi : i < D 1) (h4 : 0 < D 4) (hO : moO D M) (hK : K (some (vi (nI (cmv D (D 1) (kds D) (D 4 - 1) i)))) M) : ab_Call d 200 [vr 49 0, vi (nI i)] M K := by
  refine caX10_inn rfl (atX10_inn ?_)
  have w1 : D 1 ≤ 4 := hw.1.2.1
  have hb4 : D 4 ≤ 7 := (bnd_of hw).2.1
  refine ix_i (7 * i + (D 4 - 1)) (by rw [nw hn (by omega), pk_mul, nI_add, pk_sub (by omega), show 7 * i + D 4 - 1 = 7 * i + (D 4 - 1) by omega]) (show _ < 28 by omega) ?_
  rw [← hO.1 i hi (D 4 - 1) (by omega)] at hK
  exact hK
theorem m_told {i w : Nat} (hn : nwM M 54 0 D) (hw : wf D) (hi : i < D 1) (hw2 : w ≤ 2) (hK : ∀ M', frS 59 61 M M' → K (some (vi (tv D i w))) M') : ab_Call (d + 5) 201 [vr 49 0, vi (nI i), vi (nI w)] M K := by
  refine ab_Call_nr (caX10_told rfl (atX10_told ?_))
  have w1 : D 1 ≤ 4 := hw.1.2.1
  have hb := bnd_of hw
  have h4 : D 4 ≤ 7 := hb.2.1
  unfold tv at hK
  refine And.intro (fun q => ?_) (fun q => ?_)
  · have q := nne_use q
    rw [if_neg q] at hK
    rcases Nat.eq_zero_or_pos (D 4) with z | z
    · rw [if_pos z] at hK
      refine m_hasTrail0 hn z ?_
      refine And.intro (fun q2 => ?_) (fun q2 => ?_)
      · rw [if_neg (nne_use q2)] at hK
        exact hK M frS_refl
      · rw [if_pos (neq_use q2)] at hK
        exact hK M frS_refl
    · rw [if_neg (by omega)] at hK
      refine m_hasTrail1 hn z h4 ?_
      refine m_runs hn hw (fun M' hf hO => ?_)
      have hn' := frS_nw hf (by omega) hn
      have key : ∀ j, j ≤ D 4 - 1 → ab_At miX10_told (d + 5) 42 [some (vr 49 0), some (vi (nI i)), some (vi (nI w)), some (vi (nI (sm (lsf D (D 1) (kds D) i) j))), some (vi (nI j))] [] M' (fun r M => K (r.map ab_nr) M) := by
        refine up_ind fun j hj ih => ?_
        refine atX10_told ?_
        refine And.intro (fun h => ?_) (fun h => ?_)
        · rw [nw hn' (by omega), nI_sub1 (by omega) (by omega)] at h
          have : j = D 4 - 1 := by omega
          subst this
          refine And.intro (fun q2 => ?_) (fun q2 => ?_)
          · rw [if_neg (nne_use q2)] at hK
            exact hK M' hf
          · rw [if_pos (neq_use q2)] at hK
            refine m_inn hn' hw hi z hO ?_
            exact hK M' hf
        · rw [nw hn' (by omega), nI_sub1_lt (by omega) (by omega)] at h
          refine ix_i (7 * i + j) (by simp only [pk_mul, nI_add]) (show _ < 28 by omega) ?_
          refine ix_i (7 * i + j) (by simp only [pk_mul, nI_add]) (show _ < 28 by omega) ?_
          have := ih (by omega)
          rw [← nI_1, sm, ← nI_add, ← lvv_sub, ← (hO.2 i hi j (by omega)).1, ← hO.1 i hi j (by omega)] at this
          exact this
      exact key 0 (Nat.zero_le _)
  · have q := neq_use q
    rw [if_pos q] at hK
    refine ix_i (6 + i) (by simp only [nI_add]) (show _ < 78 by omega) ?_
    have e : M.1 54 0 (6 + i) = nI (kds D i) := nw hn (by omega)
    rw [← e] at hK
    exact hK M frS_refl
end Pursue
