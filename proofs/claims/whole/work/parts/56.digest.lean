/-! ===== digest: the class ===== -/
def folH (D : Nat → Nat) (h : Int64) : Nat → Int64
  | 0 => h
  | i + 1 => fol (tv D i) (folH D h i) 3
def kpv (M : ab_M) (k : Nat) : Int32 := if M.1 56 0 k = 0 then -1 else M.1 55 0 (78 * k + 5)
/-- the digest -/
def dg (M : ab_M) (D : Nat → Nat) : Int64 :=
  folS (M.1 52 0) (fun r k => M.1 53 0 (80 * r + k)) (folS (M.1 50 0) (fun r k => M.1 51 0 (40 * r + k)) (fol (kpv M) (folH D (folE D (fol (fun k => nI (D (46 + k))) (fo (fol (fun w => nI (cw M D w)) (Int64.ofInt 17) 10) (nI (D 77))) (D 4)) (D 5)) (D 1)) 3) 6) 4
section Digest
variable {d : Nat} {M : ab_M} {K : ab_K} {D : Nat → Nat}
theorem c_digest (hR : Rel M) (hw : wf D) (hl : ldC M 0 D) (hc : crC M 0 D) (hk : kp_ok M D) (hK : ∀ M', frS 21 38 M M' → K (some (vl (dg M D))) M') : ab_Call (d + 5) 149 [vr 0 0] M K := by
  refine caX9_digest rfl (atX9_digest ?_)
  have hb := bnd_of hw
  have w1 : D 1 ≤ 4 := hw.1.2.1
  have L95 : ∀ M', frS 21 38 M M' → ∀ h, folS (M.1 52 0) (fun r k => M.1 53 0 (80 * r + k)) (folS (M.1 50 0) (fun r k => M.1 51 0 (40 * r + k)) (fol (kpv M) h 3) 6) 4 = dg M D → ∀ j, j ≤ 3 → ab_At miX9_digest (d + 5) 95 [some (vr 0 0), some (vl (fol (kpv M) h j)), none, some (vi (nI j))] [] M' K := by
    intro M' hf h hh
    have fA := frA_S hf (by omega)
    have hR' := Rel_frA hR fA
    refine up_ind fun j hj ih => ?_
    refine atX9_digest ?_
    refine And.intro (fun q => ?_) (fun q => ?_)
    · have : j = 3 := by have := nle_use (a := 3) (b := j) q; omega
      subst this
      refine c_foldR hR' ?_
      refine c_foldT hR' ?_
      rw [hf.2 50 0 (by omega), hf.2 51 0 (by omega), hf.2 52 0 (by omega), hf.2 53 0 (by omega), hh]
      exact hK M' hf
    · have hj3 : j < 3 := nlt_use (a := j) (b := 3) q
      obtain ⟨a1, a2⟩ := hk j hj3
      have e20 : M'.1 20 0 j = M.1 56 0 j := by rw [hf.2 20 0 (by omega)]; exact a1
      have := ih hj3
      rw [← nI_1 j, fol] at this
      refine ix_i j rfl hj3 ?_
      refine And.intro (fun q2 => ?_) (fun q2 => ?_)
      · rw [show kpv M j = -1 by unfold kpv; rw [if_pos (show M.1 56 0 j = 0 from e20.symm.trans q2)]] at this
        exact this
      · have nz : ¬ M.1 56 0 j = 0 := fun w => q2 (e20.trans w)
        rcases a2 with a2 | ⟨-, -, E, wE, -, cE, nE⟩
        · exact absurd a2 nz
        · refine ix_i j rfl hj3 ?_
          have e14 : M'.1 14 (1 + j) 2 = kpv M j := by
            rw [hf.2 14 _ (by omega), cE.2.2.1]
            unfold kpv
            rw [if_neg nz, nE 5 (by omega)]
          rw [← e14] at this
          exact this
  have L46 : ∀ M', frS 21 38 M M' → chO D (D 1) (kds D) M' → ∀ h, folH D h (D 1) = folH D h (D 1) → folS (M.1 52 0) (fun r k => M.1 53 0 (80 * r + k)) (folS (M.1 50 0) (fun r k => M.1 51 0 (40 * r + k)) (fol (kpv M) (folH D h (D 1)) 3) 6) 4 = dg M D → ∀ i, i ≤ D 1 → ab_At miX9_digest (d + 5) 46 [some (vr 0 0), some (vl (folH D h i)), none, some (vi (nI i))] [] M' K := by
    intro M' hf hO h _ hh
    have fA := frA_S hf (by omega)
    have hl' := frA_ld fA hl
    have hc' := frA_cr fA (by omega) hc
    refine up_ind fun i hi ih => ?_
    refine atX9_digest ?_
    refine And.intro (fun q => ?_) (fun q => ?_)
    · rw [hl'.2.1] at q
      have : i = D 1 := by have := nle_use q; omega
      subst this
      exact L95 M' hf _ hh 0 (Nat.zero_le _)
    · rw [hl'.2.1] at q
      have hin := nlt_use q
      have inner : ∀ w, w ≤ 3 → ab_At miX9_digest (d + 5) 60 [some (vr 0 0), some (vl (fol (tv D i) (folH D h i) w)), none, some (vi (nI i)), some (vi (nI w))] [] M' K := by
        refine up_ind fun w hw3 ih2 => ?_
        refine atX9_digest ?_
        refine And.intro (fun q => ?_) (fun q => ?_)
        · have : w = 3 := by have := nlt_use (a := 2) (b := w) q; omega
          subst this
          have := ih hin
          rw [← nI_1 i, folH] at this
          exact this
        · have hw2 : w ≤ 2 := nle_use (a := w) (b := 2) q
          refine c_ofHound hl' hc' hw hin hw2 (Or.inr hO) ?_
          have := ih2 (by omega)
          rw [← nI_1 w, fol] at this
          exact this
      exact inner 0 (Nat.zero_le _)
  have L6 : ∀ w, w ≤ 10 → ab_At miX9_digest (d + 5) 6 [some (vr 0 0), some (vl (fol (fun w => nI (cw M D w)) (Int64.ofInt 17) w)), none, some (vi (nI w))] [] M K := by
    refine up_ind fun w hw3 ih => ?_
    refine atX9_digest ?_
    refine And.intro (fun q => ?_) (fun q => ?_)
    · have : w = 10 := by have := nlt_use (a := 9) (b := w) q; omega
      subst this
      refine c_foldC hc hb ?_
      refine c_pursue hl hc hw (fun M1 f1 h1 => ?_)
      exact L46 M1 f1 h1 _ rfl rfl 0 (Nat.zero_le _)
    · have hw9 : w ≤ 9 := nle_use (a := w) (b := 9) q
      refine c_count hR hw hl hc hk (by omega) ?_
      have := ih (by omega)
      rw [← nI_1 w, fol] at this
      exact this
  exact L6 0 (Nat.zero_le _)
end Digest
