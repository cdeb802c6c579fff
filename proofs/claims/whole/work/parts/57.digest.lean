/-! ===== digest: the reference, the law's step ===== -/
section Digest2
variable {d : Nat} {M : ab_M} {K : ab_K} {D : Nat → Nat}
theorem m_told_e {i w : Nat} (hn : nwM M 54 0 D) (hw : wf D) (hi : i < D 1) (hw2 : w ≤ 2) (hK : ∀ M', frS 59 61 M M' → K (some (vi (tv D i w))) M') : ab_Call (d + 5) 201 [vr 49 0, vi (nI i), vi (nI w)] M K := m_told hn hw hi hw2 hK
/-- rows, then texts -/
theorem m_dgT {h : Int64} (hR : Rel M) (hK : K (some (vl (folS (M.1 52 0) (fun r k => M.1 53 0 (80 * r + k)) h 4))) M) : ab_At miX10_digest (d + 6) 309 [some (vr 49 0), some (vl h), none, some (vi (nI 0))] [] M K := by
  have key : ∀ r, r ≤ 4 → ab_At miX10_digest (d + 6) 309 [some (vr 49 0), some (vl (folS (M.1 52 0) (fun r k => M.1 53 0 (80 * r + k)) h r)), none, some (vi (nI r))] [] M K := by
    refine up_ind fun r hr ih => ?_
    refine atX10_digest ?_
    refine And.intro (fun q => ?_) (fun q => ?_)
    · have : r = 4 := by have := nle_use (a := 4) (b := r) q; omega
      subst this
      exact hK
    · have hrn : r < 4 := nlt_use (a := r) (b := 4) q
      refine ix_i r rfl hrn ?_
      have nx : ∀ n : Nat, (M.1 52 0 r).toInt.toNat = n → n ≤ 80 → (n = 0 ∧ M.1 52 0 r = -1 ∨ M.1 52 0 r = nI n) → ∀ j, j ≤ n → ab_At miX10_digest (d + 6) 331 [some (vr 49 0), some (vl (fol (fun k => M.1 53 0 (80 * r + k)) (fo (folS (M.1 52 0) (fun r k => M.1 53 0 (80 * r + k)) h r) (M.1 52 0 r)) j)), none, some (vi (nI r)), some (vi (nI j))] [] M K := by
        intro n hn n40 hor
        refine up_ind fun j hj ih2 => ?_
        refine atX10_digest ?_
        refine ix_i r rfl hrn ?_
        refine And.intro (fun q => ?_) (fun q => ?_)
        · have : j = n := by
            rcases hor with ⟨z, _⟩ | z
            · omega
            · rw [z] at q; have := nle_use q; omega
          subst this
          have := ih hrn
          rw [← nI_1 r, folS, hn] at this
          exact this
        · have hjn : j < n := by
            rcases hor with ⟨z, z2⟩ | z
            · rw [z2] at q; exact absurd q (fun w => i_lt_le w (i_le_trans (by decide) (nI_le (Nat.zero_le j) (by omega))))
            · rw [z] at q; exact nlt_use q
          refine ix_i (80 * r + j) (by simp only [pk_mul, nI_add]) (show _ < 320 by omega) ?_
          have := ih2 hjn
          rw [← nI_1 j, fol] at this
          exact this
      rcases tx_cases hR hrn with ⟨s1, s2⟩ | ⟨n, n40, s1, s2, s3⟩
      · exact nx 0 (by rw [s2]; exact m1_nat) (by omega) (Or.inl ⟨rfl, s2⟩) 0 (Nat.le_refl _)
      · exact nx n (by rw [s2]; exact nI_nat (by omega)) n40 (Or.inr s2) 0 (Nat.zero_le _)
  exact key 0 (Nat.zero_le _)
theorem m_dgR {h : Int64} (hR : Rel M) (hK : K (some (vl (folS (M.1 52 0) (fun r k => M.1 53 0 (80 * r + k)) (folS (M.1 50 0) (fun r k => M.1 51 0 (40 * r + k)) h 6) 4))) M) : ab_At miX10_digest (d + 6) 241 [some (vr 49 0), some (vl h), none, some (vi (nI 0))] [] M K := by
  have key : ∀ r, r ≤ 6 → ab_At miX10_digest (d + 6) 241 [some (vr 49 0), some (vl (folS (M.1 50 0) (fun r k => M.1 51 0 (40 * r + k)) h r)), none, some (vi (nI r))] [] M K := by
    refine up_ind fun r hr ih => ?_
    refine atX10_digest ?_
    refine And.intro (fun q => ?_) (fun q => ?_)
    · have : r = 6 := by have := nle_use (a := 6) (b := r) q; omega
      subst this
      exact m_dgT hR hK
    · have hrn : r < 6 := nlt_use (a := r) (b := 6) q
      refine ix_i r rfl hrn ?_
      have nx : ∀ n : Nat, (M.1 50 0 r).toInt.toNat = n → n ≤ 40 → (n = 0 ∧ M.1 50 0 r = -1 ∨ M.1 50 0 r = nI n) → ∀ j, j ≤ n → ab_At miX10_digest (d + 6) 264 [some (vr 49 0), some (vl (fol (fun k => M.1 51 0 (40 * r + k)) (fo (folS (M.1 50 0) (fun r k => M.1 51 0 (40 * r + k)) h r) (M.1 50 0 r)) j)), none, some (vi (nI r)), some (vi (nI j))] [] M K := by
        intro n hn n40 hor
        refine up_ind fun j hj ih2 => ?_
        refine atX10_digest ?_
        refine ix_i r rfl hrn ?_
        refine And.intro (fun q => ?_) (fun q => ?_)
        · have : j = n := by
            rcases hor with ⟨z, _⟩ | z
            · omega
            · rw [z] at q; have := nle_use q; omega
          subst this
          have := ih hrn
          rw [← nI_1 r, folS, hn] at this
          exact this
        · have hjn : j < n := by
            rcases hor with ⟨z, z2⟩ | z
            · rw [z2] at q; exact absurd q (fun w => i_lt_le w (i_le_trans (by decide) (nI_le (Nat.zero_le j) (by omega))))
            · rw [z] at q; exact nlt_use q
          refine ix_i (40 * r + j) (by simp only [pk_mul, nI_add]) (show _ < 240 by omega) ?_
          have := ih2 hjn
          rw [← nI_1 j, fol] at this
          exact this
      rcases rw_cases hR hrn with ⟨s1, s2⟩ | ⟨n, n40, s1, s2, s3⟩
      · exact nx 0 (by rw [s2]; exact m1_nat) (by omega) (Or.inl ⟨rfl, s2⟩) 0 (Nat.le_refl _)
      · exact nx n (by rw [s2]; exact nI_nat (by omega)) n40 (Or.inr s2) 0 (Nat.zero_le _)
  exact key 0 (Nat.zero_le _)
theorem m_digest (hR : Rel M) (hw : wf D) (hn : nwM M 54 0 D) (hK : ∀ M', frS 59 61 M M' → K (some (vl (dg M D))) M') : ab_Call (d + 6) 265 [vr 49 0] M K := by
  refine caX10_digest rfl (atX10_digest ?_)
  have hb := bnd_of hw
  obtain ⟨b3, b4, b5, b6, b7, b8⟩ := hb
  have w1 : D 1 ≤ 4 := hw.1.2.1
  have L196 : ∀ M', frS 59 61 M M' → ∀ h, folS (M.1 52 0) (fun r k => M.1 53 0 (80 * r + k)) (folS (M.1 50 0) (fun r k => M.1 51 0 (40 * r + k)) (fol (kpv M) h 3) 6) 4 = dg M D → ∀ j, j ≤ 3 → ab_At miX10_digest (d + 6) 196 [some (vr 49 0), some (vl (fol (kpv M) h j)), none, some (vi (nI j))] [] M' K := by
    intro M' hf h hh
    have hR' := Rel_frA hR (frA_S hf (by omega))
    refine up_ind fun j hj ih => ?_
    refine atX10_digest ?_
    refine And.intro (fun q => ?_) (fun q => ?_)
    · have : j = 3 := by have := nle_use (a := 3) (b := j) q; omega
      subst this
      refine m_dgR hR' ?_
      rw [hf.2 50 0 (by omega), hf.2 51 0 (by omega), hf.2 52 0 (by omega), hf.2 53 0 (by omega), hh]
      exact hK M' hf
    · have hj3 : j < 3 := nlt_use (a := j) (b := 3) q
      have e56 : M'.1 56 0 j = M.1 56 0 j := by rw [hf.2 56 0 (by omega)]
      have := ih hj3
      rw [← nI_1 j, fol] at this
      refine ix_i j rfl hj3 ?_
      refine And.intro (fun q2 => ?_) (fun q2 => ?_)
      · rw [show kpv M j = -1 by unfold kpv; rw [if_pos (show M.1 56 0 j = 0 from e56.symm.trans q2)]] at this
        exact this
      · refine ix_i (78 * j + 5) (by simp only [pk_mul, nI_add]) (show _ < 234 by omega) ?_
        rw [show kpv M j = M'.1 55 0 (78 * j + 5) by unfold kpv; rw [if_neg (show ¬ M.1 56 0 j = 0 from fun w => q2 (e56.trans w)), hf.2 55 0 (by omega)]] at this
        exact this
  have L148 : ∀ h, folS (M.1 52 0) (fun r k => M.1 53 0 (80 * r + k)) (folS (M.1 50 0) (fun r k => M.1 51 0 (40 * r + k)) (fol (kpv M) (folH D h (D 1)) 3) 6) 4 = dg M D → ∀ i, i ≤ D 1 → ∀ M', frS 59 61 M M' → ab_At miX10_digest (d + 6) 148 [some (vr 49 0), some (vl (folH D h i)), none, some (vi (nI i))] [] M' K := by
    intro h hh
    refine up_ind fun i hi ih M' hf => ?_
    refine atX10_digest ?_
    have hn' := frS_nw hf (by omega) hn
    refine And.intro (fun q => ?_) (fun q => ?_)
    · rw [nw hn' (by omega)] at q
      have : i = D 1 := by have := nle_use q; omega
      subst this
      exact L196 M' hf _ hh 0 (Nat.zero_le _)
    · rw [nw hn' (by omega)] at q
      have hin := nlt_use q
      have inner : ∀ w, w ≤ 3 → ∀ M', frS 59 61 M M' → ab_At miX10_digest (d + 6) 161 [some (vr 49 0), some (vl (fol (tv D i) (folH D h i) w)), none, some (vi (nI i)), some (vi (nI w))] [] M' K := by
        refine up_ind fun w hw3 ih2 M' hf => ?_
        refine atX10_digest ?_
        have hn' := frS_nw hf (by omega) hn
        refine And.intro (fun q => ?_) (fun q => ?_)
        · have : w = 3 := by have := nle_use (a := 3) (b := w) q; omega
          subst this
          have := ih hin M' hf
          rw [← nI_1 i, folH] at this
          exact this
        · have hw2 : w < 3 := nlt_use (a := w) (b := 3) q
          refine m_told hn' hw hin (by omega) (fun M2 f2 => ?_)
          have := ih2 hw2 M2 (frS_trans hf f2)
          rw [← nI_1 w, fol] at this
          exact this
      exact inner 0 (Nat.zero_le _) M' hf
  have L83 : ∀ h, folS (M.1 52 0) (fun r k => M.1 53 0 (80 * r + k)) (folS (M.1 50 0) (fun r k => M.1 51 0 (40 * r + k)) (fol (kpv M) (folH D (folE D h (D 5)) (D 1)) 3) 6) 4 = dg M D → ∀ j, j ≤ D 5 → ab_At miX10_digest (d + 6) 83 [some (vr 49 0), some (vl (folE D h j)), none, some (vi (nI j))] [] M K := by
    intro h hh
    refine up_ind fun j hj ih => ?_
    refine atX10_digest ?_
    refine And.intro (fun q => ?_) (fun q => ?_)
    · rw [nw hn (by omega)] at q
      have : j = D 5 := by have := nle_use q; omega
      subst this
      exact L148 _ hh 0 (Nat.zero_le _) M frS_refl
    · rw [nw hn (by omega)] at q
      have hjn := nlt_use q
      have e1 : M.1 54 0 (53 + j) = nI (D (53 + j)) := nw hn (by omega)
      have e2 : M.1 54 0 (61 + j) = nI (D (61 + j)) := nw hn (by omega)
      have e3 : M.1 54 0 (69 + j) = nI (D (69 + j)) := nw hn (by omega)
      refine ix_i (53 + j) (by simp only [nI_add]) (show _ < 78 by omega) ?_
      refine ix_i (61 + j) (by simp only [nI_add]) (show _ < 78 by omega) ?_
      refine ix_i (69 + j) (by simp only [nI_add]) (show _ < 78 by omega) ?_
      have := ih hjn
      rw [← nI_1 j, folE, ← e1, ← e2, ← e3] at this
      exact this
  have L48 : ∀ h, folS (M.1 52 0) (fun r k => M.1 53 0 (80 * r + k)) (folS (M.1 50 0) (fun r k => M.1 51 0 (40 * r + k)) (fol (kpv M) (folH D (folE D (fol (fun k => nI (D (46 + k))) h (D 4)) (D 5)) (D 1)) 3) 6) 4 = dg M D → ∀ j, j ≤ D 4 → ab_At miX10_digest (d + 6) 48 [some (vr 49 0), some (vl (fol (fun k => nI (D (46 + k))) h j)), none, some (vi (nI j))] [] M K := by
    intro h hh
    refine up_ind fun j hj ih => ?_
    refine atX10_digest ?_
    refine And.intro (fun q => ?_) (fun q => ?_)
    · rw [nw hn (by omega)] at q
      have : j = D 4 := by have := nle_use q; omega
      subst this
      exact L83 _ hh 0 (Nat.zero_le _)
    · rw [nw hn (by omega)] at q
      have hjn := nlt_use q
      have e1 : M.1 54 0 (46 + j) = nI (D (46 + j)) := nw hn (by omega)
      refine ix_i (46 + j) (by simp only [nI_add]) (show _ < 78 by omega) ?_
      have := ih hjn
      rw [← nI_1 j, fol, ← e1] at this
      exact this
  have L6 : ∀ w, w ≤ 10 → ab_At miX10_digest (d + 6) 6 [some (vr 49 0), some (vl (fol (fun w => nI (cw M D w)) (Int64.ofInt 17) w)), none, some (vi (nI w))] [] M K := by
    refine up_ind fun w hw3 ih => ?_
    refine atX10_digest ?_
    refine And.intro (fun q => ?_) (fun q => ?_)
    · have : w = 10 := by have := nle_use (a := 10) (b := w) q; omega
      subst this
      have e77 : M.1 54 0 77 = nI (D 77) := nw hn (by omega)
      have := L48 (fo (fol (fun w => nI (cw M D w)) (Int64.ofInt 17) 10) (nI (D 77))) rfl 0 (Nat.zero_le _)
      rw [fol, ← e77] at this
      exact this
    · have hw9 : w < 10 := nlt_use (a := w) (b := 10) q
      refine m_counted hR hw hn hw9 ?_
      have := ih hw9
      rw [← nI_1 w, fol] at this
      exact this
  exact L6 0 (Nat.zero_le _)
theorem cw_fr {M' : ab_M} {w : Nat} (h : frS 21 38 M M') : cw M' D w = cw M D w := by
  unfold cw
  rw [h.2 50 0 (by omega), h.2 52 0 (by omega), h.2 56 0 (by omega)]
theorem dg_fr {M' : ab_M} (h : frS 21 38 M M') : dg M' D = dg M D := by
  unfold dg kpv
  rw [h.2 50 0 (by omega), h.2 51 0 (by omega), h.2 52 0 (by omega), h.2 53 0 (by omega), h.2 55 0 (by omega), h.2 56 0 (by omega)]
  simp only [cw_fr h]
theorem op_digest (hR : Rel M) : OpL (d + 6) 149 265 [] M := by
  obtain ⟨D, hw, hw2, hw3, hl, hc, hn, hk⟩ := Rel_D hR
  refine c_digest hR hw hl hc hk (fun M1 f1 => ?_)
  have f1' := frA_S f1 (by omega)
  refine m_digest (D := D) (Rel_frA hR f1') hw (frA_nw f1' (by omega) (by omega) hn) (fun M3 f3 => ?_)
  rw [dg_fr f1]
  exact ⟨⟨_, rfl, rfl⟩, Rel_frA (Rel_frA hR f1') (frA_S f3 (by omega))⟩
end Digest2
