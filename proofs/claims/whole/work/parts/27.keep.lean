/-! ===== keep, on ===== -/
section Keep2
variable {d : Nat} {M : ab_M} {K : ab_K} {D : Nat → Nat}
theorem eqL_rf (D : Nat → Nat) : eqL D D := fun _ _ => rfl
theorem op_keep {x : Int32} (hR : Rel M) : OpI (d + 3) 123 218 [vi x] M := by
  obtain ⟨D, hw, hw2, hw3, hl, hc, hn, hk⟩ := Rel_D hR
  have hb := bnd_of hw
  have hb0 := hw.1.1
  rcases ix_cases x (n := 3) (by omega) with ⟨j, hj, rfl⟩ | hno
  · refine ab_Call_nr (caX9_keep rfl (atX9_keep ?_))
    refine And.intro (fun q => absurd q (nI_pos (by omega))) (fun _ => And.intro (fun _ => ?_) (fun q => absurd q (nI_ge hj (by omega))))
    by_cases h0 : D 0 = 0
    · refine c_isBare1 hl h0 ?_
      refine ab_Call_nr (caX10_keep rfl (atX10_keep ?_))
      refine c_inP (n := 3) rfl rfl hj (by omega) ?_
      exact And.intro (fun q => absurd (by rw [nw hn (by omega), h0]) q) (fun _ => ⟨⟨_, rfl, rfl⟩, hR⟩)
    · refine c_isBare0 hl (by omega) hb0 ?_
      refine ix_i j rfl hj ?_
      refine c_take (a := 1 + j) (b := 0) (by omega) (fun M' hf h2 hcc => ?_)
      refine ix_i j rfl hj ?_
      refine ab_Call_nr (caX10_keep rfl (atX10_keep ?_))
      refine c_inP (n := 3) rfl rfl hj (by omega) ?_
      have f54 : M'.1 54 0 = M.1 54 0 := hf 54 0 (by omega)
      have hn' : nwM M' 54 0 D := nwM_fr f54 hn
      refine And.intro (fun _ => ?_) (fun q => absurd ((nw hn' (by omega)).symm.trans q) (nI_ne0 (by omega) (by omega)))
      refine m_copies_54_55 (a := 0) (b := 78 * j) rfl (by rw [pk_mul]) (by omega) (by omega) ?_
      refine ix_i j rfl hj ?_
      have e : M'.1 14 0 2 = M'.1 54 0 5 := by rw [hf 14 0 (by omega), hc.2.2.1, nw hn' (by omega)]
      refine ⟨⟨_, rfl, congrArg (fun v' => some (vi v')) e.symm⟩, ?_⟩
      have b1 : vp_nar .boolean (nI 1) = 1 := by decide
      rw [b1]
      have f3 : M'.1 3 = M.1 3 := by funext i; exact hf 3 i (by omega)
      have f7 : M'.1 7 = M.1 7 := by funext i; exact hf 7 i (by omega)
      refine Rel_new (E := D) hR (rw_fr hR.1 (hf 4 0 (by omega)) f3 (hf 50 0 (by omega)) (hf 51 0 (by omega))) (tx_fr hR.2.1 (hf 8 0 (by omega)) f7 (hf 52 0 (by omega)) (hf 53 0 (by omega))) ?_ (hf 70 0 (by omega)) hw hw2 hw3 (ldC_fr (M := M) (hf 9 0 (by omega)) (hf 10 0 (by omega)) (fun x _ => hf 12 _ (by omega)) hl) (crC_fr (M := M) ⟨hf 14 0 (by omega), hf 15 0 (by omega), hf 16 0 (by omega), hf 17 0 (by omega), hf 18 0 (by omega)⟩ hc) hn' ?_ (by constructor <;> (show M'.2.2 49 0 _ = _; rw [h2]))
      · obtain ⟨s1, s2, s3, s4, s5⟩ := hR.2.2.1
        unfold sc_ok
        simp only [sR, ab_sI]
        have g0 := hf 0 0 (by omega)
        have g49 := hf 49 0 (by omega)
        have g48 := hf 48 0 (by omega)
        have g57 := hf 57 0 (by omega)
        simp only [g0, g49, g48, g57, h2]
        exact ⟨s1, s2, s3, s4, s5⟩
      · intro k hk3
        by_cases e : k = j
        · subst e
          refine ⟨?_, Or.inr ⟨?_, by omega, D, hw, fun _ _ => rfl, hcc D hb hc, fun i hi => ?_⟩⟩
          · exact (sI_eq (M := M')).trans (sI_eq (M := sR (ab_sI M' 20 0 k 1) 55 0 (cpf ((ab_sI M' 20 0 k 1).1 54 0) ((ab_sI M' 20 0 k 1).1 55 0) 0 (78 * k) 78))).symm
          · exact sI_eq (M := sR (ab_sI M' 20 0 k 1) 55 0 (cpf ((ab_sI M' 20 0 k 1).1 54 0) ((ab_sI M' 20 0 k 1).1 55 0) 0 (78 * k) 78))
          · show (sR (ab_sI M' 20 0 k 1) 55 0 (cpf ((ab_sI M' 20 0 k 1).1 54 0) ((ab_sI M' 20 0 k 1).1 55 0) 0 (78 * k) 78)).1 55 0 (78 * k + i) = _
            rw [sR_eq]
            unfold cpf
            rw [if_pos ⟨by omega, by omega⟩, Nat.add_sub_cancel_left]
            exact hn' i hi
        · obtain ⟨a, b⟩ := hk k hk3
          have e20 : (ab_sI M' 20 0 j 1).1 20 0 k = M.1 20 0 k := by rw [sI_k e, hf 20 0 (by omega)]
          have e56 : (ab_sI (sR (ab_sI M' 20 0 j 1) 55 0 (cpf ((ab_sI M' 20 0 j 1).1 54 0) ((ab_sI M' 20 0 j 1).1 55 0) 0 (78 * j) 78)) 56 0 j 1).1 56 0 k = M.1 56 0 k := by
            rw [sI_k e]
            exact congrFun (hf 56 0 (by omega)) k
          refine ⟨e20.trans (a.trans e56.symm), ?_⟩
          rw [e56]
          refine b.imp (fun q => q) (fun q => ?_)
          obtain ⟨q1, q2, F, q3, q4, q5, q6⟩ := q
          refine ⟨q1, q2, F, q3, q4, crC_fr (M := M) ⟨hf 14 _ (by omega), hf 15 _ (by omega), hf 16 _ (by omega), hf 17 _ (by omega), hf 18 _ (by omega)⟩ q5, fun i hi => ?_⟩
          show (sR (ab_sI M' 20 0 j 1) 55 0 (cpf ((ab_sI M' 20 0 j 1).1 54 0) ((ab_sI M' 20 0 j 1).1 55 0) 0 (78 * j) 78)).1 55 0 (78 * k + i) = _
          rw [sR_eq]
          unfold cpf
          rw [if_neg (by omega)]
          exact (congrFun (hf 55 0 (by omega)) _).trans (q6 i hi)
  · have mb : ab_Call (d + 3) 218 [vr 49 0, vi x] M (fun r2 M2 => (∃ v, some (vi (-1)) = some (vi v) ∧ r2 = some (vi v)) ∧ Rel M2) := by
      refine ab_Call_nr (caX10_keep rfl (atX10_keep ?_))
      exact c_in0 (n := 3) rfl rfl (by omega) hno ⟨⟨_, rfl, rfl⟩, hR⟩
    refine ab_Call_nr (caX9_keep rfl (atX9_keep ?_))
    refine And.intro (fun _ => mb) (fun q => And.intro (fun q2 => ?_) (fun _ => mb))
    rcases ix_no (by omega) hno with w | w
    · exact absurd q (i_not_le w)
    · exact absurd q2 (fun q2 => i_lt_le q2 w)
theorem op_on {x : Int32} (hR : Rel M) : OpI (d + 3) 124 219 [vi x] M := by
  obtain ⟨D, hw, hw2, hw3, hl, hc, hn, hk⟩ := Rel_D hR
  have hb := bnd_of hw
  have hb0 := hw.1.1
  rcases ix_cases x (n := 3) (by omega) with ⟨j, hj, rfl⟩ | hno
  · refine ab_Call_nr (caX9_on rfl (atX9_on ?_))
    refine And.intro (fun q => absurd q (nI_pos (by omega))) (fun _ => And.intro (fun _ => ?_) (fun q => absurd q (nI_ge hj (by omega))))
    refine ix_i j rfl hj ?_
    obtain ⟨a, b⟩ := hk j hj
    rcases b with b | ⟨b, hd0, E, hwE, hE, hcE, hnE⟩
    · refine And.intro (fun q => absurd (a.trans b) q) (fun _ => ?_)
      refine c_refuse (by omega) (by omega) ?_
      refine ab_Call_nr (caX10_on rfl (atX10_on ?_))
      refine c_inP (n := 3) rfl rfl hj (by omega) ?_
      refine ix_i j rfl hj ?_
      refine And.intro (fun q => absurd b q) (fun _ => ?_)
      refine m_found (by omega) (by omega) ?_
      exact ⟨⟨_, rfl, rfl⟩, Rel_rf 1 hR⟩
    · refine And.intro (fun _ => ?_) (fun q => absurd ((a.trans b).symm.trans q) (by decide))
      refine ix_i j rfl hj ?_
      refine c_take (a := 0) (b := 1 + j) (by omega) (fun M' hf h2 hcc => ?_)
      refine ab_Call_nr (caX10_on rfl (atX10_on ?_))
      refine c_inP (n := 3) rfl rfl hj (by omega) ?_
      refine ix_i j rfl hj ?_
      have f56 : M'.1 56 0 j = 1 := by rw [hf 56 0 (by omega)]; exact b
      refine And.intro (fun _ => ?_) (fun q => absurd (f56.symm.trans q) (by decide))
      refine m_copies_55_54 (a := 78 * j) (b := 0) (by rw [pk_mul]) rfl (by omega) (by omega) ?_
      have hn2 : nwM (sR M' 54 0 (cpf (M'.1 55 0) (M'.1 54 0) (78 * j) 0 78)) 54 0 E := by
        intro i hi
        rw [sR_eq]
        unfold cpf
        rw [if_pos ⟨by omega, by omega⟩, Nat.sub_zero, Nat.zero_add]
        exact (congrFun (hf 55 0 (by omega)) _).trans (hnE i hi)
      have hcr : crC M' 0 E := hcc E (bnd_of hwE) hcE
      have e : M'.1 14 0 2 = (sR M' 54 0 (cpf (M'.1 55 0) (M'.1 54 0) (78 * j) 0 78)).1 54 0 5 := by
        rw [nw hn2 (by omega)]
        exact hcr.2.2.1
      refine ⟨⟨_, rfl, congrArg (fun v' => some (vi v')) e.symm⟩, ?_⟩
      have f3 : M'.1 3 = M.1 3 := by funext i; exact hf 3 i (by omega)
      have f7 : M'.1 7 = M.1 7 := by funext i; exact hf 7 i (by omega)
      have e0 : E 0 = D 0 := hE 0 (by omega)
      refine Rel_new (E := E) hR (rw_fr hR.1 (hf 4 0 (by omega)) f3 (hf 50 0 (by omega)) (hf 51 0 (by omega))) (tx_fr hR.2.1 (hf 8 0 (by omega)) f7 (hf 52 0 (by omega)) (hf 53 0 (by omega))) ?_ (hf 70 0 (by omega)) hwE (by rw [e0]; exact hw2) (fun q => absurd q (by omega)) (ldC_cong hE hw.1 (ldC_fr (M := M) (hf 9 0 (by omega)) (hf 10 0 (by omega)) (fun x _ => hf 12 _ (by omega)) hl)) hcr hn2 ?_ (by constructor <;> (show M'.2.2 49 0 _ = _; rw [h2]))
      · obtain ⟨s1, s2, s3, s4, s5⟩ := hR.2.2.1
        unfold sc_ok
        simp only [sR]
        have g0 := hf 0 0 (by omega)
        have g49 := hf 49 0 (by omega)
        have g48 := hf 48 0 (by omega)
        have g57 := hf 57 0 (by omega)
        simp only [g0, g49, g48, g57, h2]
        exact ⟨s1, s2, s3, s4, s5⟩
      · intro k hk3
        obtain ⟨a, b⟩ := kp_cong hE hk k hk3
        have e20 : M'.1 20 0 = M.1 20 0 := hf 20 0 (by omega)
        have e56 : M'.1 56 0 = M.1 56 0 := hf 56 0 (by omega)
        refine ⟨(congrFun e20 k).trans (a.trans (congrFun e56 k).symm), ?_⟩
        refine b.imp (fun q => (congrFun e56 k).trans q) (fun q => ?_)
        obtain ⟨q1, q2, F, q3, q4, q5, q6⟩ := q
        exact ⟨(congrFun e56 k).trans q1, q2, F, q3, q4, crC_fr (M := M) ⟨hf 14 _ (by omega), hf 15 _ (by omega), hf 16 _ (by omega), hf 17 _ (by omega), hf 18 _ (by omega)⟩ q5, fun i hi => (congrFun (hf 55 0 (by omega)) _).trans (q6 i hi)⟩
  · have mb : ab_Call (d + 3) 219 [vr 49 0, vi x] M (fun r2 M2 => (∃ v, some (vi (-1)) = some (vi v) ∧ r2 = some (vi v)) ∧ Rel M2) := by
      refine ab_Call_nr (caX10_on rfl (atX10_on ?_))
      exact c_in0 (n := 3) rfl rfl (by omega) hno ⟨⟨_, rfl, rfl⟩, hR⟩
    refine ab_Call_nr (caX9_on rfl (atX9_on ?_))
    refine And.intro (fun _ => mb) (fun q => And.intro (fun q2 => ?_) (fun _ => mb))
    rcases ix_no (by omega) hno with w | w
    · exact absurd q (i_not_le w)
    · exact absurd q2 (fun q2 => i_lt_le q2 w)
end Keep2
