/-! ===== count ===== -/
def qk (D : Nat → Nat) (i : Nat) : Bool := decide (kds D i = 1 ∨ kds D i = 4)
def tr1 (x : Int32) : Bool := decide (x ≠ -1)
/-- what count tells -/
def cw (M : ab_M) (D : Nat → Nat) (w : Nat) : Nat := if w < 6 then D w else if w = 6 then sm (fun i => b1 (qk D i)) (D 1) else if w = 7 then sm (fun r => b1 (tr1 (M.1 50 0 r))) 6 else if w = 8 then sm (fun r => b1 (tr1 (M.1 52 0 r))) 4 else sm (fun r => b1 (decide (M.1 56 0 r ≠ 0))) 3
section Count
variable {d : Nat} {M : ab_M} {K : ab_K} {D : Nat → Nat}
theorem c_quickOnes (hl : ldC M 0 D) (hw : wf D) (hK : K (some (vi (nI (sm (fun i => b1 (qk D i)) (D 1))))) M) : ab_Call (d + 1) 56 [vr 9 0] M K := by
  refine caX3_quickOnes rfl (atX3_quickOnes ?_)
  have w1 : D 1 ≤ 4 := hw.1.2.1
  have key : ∀ j, j ≤ D 1 → ab_At miX3_quickOnes (d + 1) 4 [some (vr 9 0), some (vi (nI (sm (fun i => b1 (qk D i)) j))), some (vi (nI j))] [] M K := by
    refine up_ind fun j hj ih => ?_
    refine atX3_quickOnes ?_
    refine And.intro (fun h => ?_) (fun h => ?_)
    · rw [hl.2.1] at h
      have : j = D 1 := by have := nle_use h; omega
      subst this
      exact hK
    · rw [hl.2.1] at h
      have hjn := nlt_use h
      have := ih hjn
      rw [← nI_1 j, sm, ← nI_add] at this
      refine ix_i j rfl (show j < 4 by omega) ?_
      rw [show M.1 10 0 j = nI (kds D j) from hl.2.2.2.1 j hjn]
      refine c_isA (hw.1.2.2.2.1 j hjn) (by omega) (fun q => ?_) (fun q => ?_)
      · rw [show qk D j = true by unfold qk; simp; omega] at this
        exact this
      · rw [show qk D j = false by unfold qk; simp; omega] at this
        exact this
  exact key 0 (Nat.zero_le _)
theorem c_manyR (hR : Rel M) (hK : K (some (vi (nI (sm (fun r => b1 (tr1 (M.1 50 0 r))) 6)))) M) : ab_Call (d + 1) 92 [vr 1 0] M K := by
  refine caX7_manyThere rfl (atX7_manyThere ?_)
  have key : ∀ j, j ≤ 6 → ab_At miX7_manyThere (d + 1) 4 [some (vr 1 0), some (vi (nI (sm (fun r => b1 (tr1 (M.1 50 0 r))) j))), some (vi (nI j))] [] M K := by
    refine up_ind fun j hj ih => ?_
    refine atX7_manyThere ?_
    refine And.intro (fun h => ?_) (fun h => ?_)
    · have : j = 6 := by have := nle_use (b := j) (a := 6) h; omega
      subst this
      exact hK
    · have hjn : j < 6 := nlt_use (a := j) (b := 6) h
      have := ih hjn
      rw [← nI_1 j, sm, ← nI_add] at this
      rcases rw_cases hR hjn with ⟨s1, s2⟩ | ⟨n, n40, s1, s2, s3⟩
      · refine c_isThRm hjn s1 ?_
        rw [show tr1 (M.1 50 0 j) = false by unfold tr1; simp [s2]] at this
        exact this
      · refine c_isThR hjn n40 s1 ?_
        rw [show tr1 (M.1 50 0 j) = true by unfold tr1; rw [s2]; exact decide_eq_true (ne_m1 (by omega))] at this
        exact this
  exact key 0 (Nat.zero_le _)
theorem c_isThT1 {j n : Nat} (hj : j < 4) (hn : n ≤ 80) (hs : M.1 8 0 j = nI n) (hK : K (some (.inl 1)) M) : ab_Call d 84 [vr 5 0, vi (nI j)] M K := by
  refine caX7_isThere rfl (atX7_isThere ?_)
  refine ix_i j rfl hj ?_
  exact And.intro (fun h => absurd (hs.symm.trans h) (ne_m1 (by omega))) (fun _ => hK)
theorem c_isThT0 {j : Nat} (hj : j < 4) (hs : M.1 8 0 j = -1) (hK : K (some (.inl 0)) M) : ab_Call d 84 [vr 5 0, vi (nI j)] M K := by
  refine caX7_isThere rfl (atX7_isThere ?_)
  refine ix_i j rfl hj ?_
  exact And.intro (fun _ => hK) (fun h => absurd hs h)
theorem c_manyT (hR : Rel M) (hK : K (some (vi (nI (sm (fun r => b1 (tr1 (M.1 52 0 r))) 4)))) M) : ab_Call (d + 1) 92 [vr 5 0] M K := by
  refine caX7_manyThere rfl (atX7_manyThere ?_)
  have key : ∀ j, j ≤ 4 → ab_At miX7_manyThere (d + 1) 4 [some (vr 5 0), some (vi (nI (sm (fun r => b1 (tr1 (M.1 52 0 r))) j))), some (vi (nI j))] [] M K := by
    refine up_ind fun j hj ih => ?_
    refine atX7_manyThere ?_
    refine And.intro (fun h => ?_) (fun h => ?_)
    · have : j = 4 := by have := nle_use (b := j) (a := 4) h; omega
      subst this
      exact hK
    · have hjn : j < 4 := nlt_use (a := j) (b := 4) h
      have := ih hjn
      rw [← nI_1 j, sm, ← nI_add] at this
      rcases tx_cases hR hjn with ⟨s1, s2⟩ | ⟨n, n40, s1, s2, s3⟩
      · refine c_isThT0 hjn s1 ?_
        rw [show tr1 (M.1 52 0 j) = false by unfold tr1; simp [s2]] at this
        exact this
      · refine c_isThT1 hjn n40 s1 ?_
        rw [show tr1 (M.1 52 0 j) = true by unfold tr1; rw [s2]; exact decide_eq_true (ne_m1 (by omega))] at this
        exact this
  exact key 0 (Nat.zero_le _)
theorem c_manyKept (hk : kp_ok M D) (hK : K (some (vi (nI (sm (fun r => b1 (decide (M.1 56 0 r ≠ 0))) 3)))) M) : ab_Call d 158 [vr 0 0] M K := by
  refine caX9_manyKept rfl (atX9_manyKept ?_)
  have key : ∀ j, j ≤ 3 → ab_At miX9_manyKept d 4 [some (vr 0 0), some (vi (nI (sm (fun r => b1 (decide (M.1 56 0 r ≠ 0))) j))), some (vi (nI j))] [] M K := by
    refine up_ind fun j hj ih => ?_
    refine atX9_manyKept ?_
    refine And.intro (fun h => ?_) (fun h => ?_)
    · have : j = 3 := by have := nle_use (b := j) (a := 3) h; omega
      subst this
      exact hK
    · have hjn : j < 3 := nlt_use (a := j) (b := 3) h
      have := ih hjn
      rw [← nI_1 j, sm, ← nI_add] at this
      have e := (hk j hjn).1
      refine ix_i j rfl hjn ?_
      refine And.intro (fun q => ?_) (fun q => ?_)
      · rw [show decide (M.1 56 0 j ≠ 0) = false from decide_eq_false (fun w => w (e.symm.trans q))] at this
        exact this
      · rw [show decide (M.1 56 0 j ≠ 0) = true from decide_eq_true (fun w => q (e.trans w))] at this
        exact this
  exact key 0 (Nat.zero_le _)
theorem c_count {w : Nat} (hR : Rel M) (hw : wf D) (hl : ldC M 0 D) (hc : crC M 0 D) (hk : kp_ok M D) (hw9 : w < 10) (hK : K (some (vi (nI (cw M D w)))) M) : ab_Call (d + 2) 146 [vr 0 0, vi (nI w)] M K := by
  refine ab_Call_nr (caX9_count rfl (atX9_count ?_))
  refine And.intro (fun q => ?_) (And.intro (fun q => ?_) (And.intro (fun q => ?_) (And.intro (fun q => ?_) (And.intro (fun q => ?_) (And.intro (fun q => ?_) (And.intro (fun q => ?_) (And.intro (fun q => ?_) (And.intro (fun q => ?_) (And.intro (fun q => ?_) (And.intro (fun q => ?_) trivial))))))))))
  · rw [nI_toInt (by omega)] at q
    exfalso
    simp at q
    omega
  · have q : w = 0 := neq_use (a := w) (b := 0) q
    subst q
    rw [show cw M D 0 = D 0 from rfl, ← hl.1] at hK
    exact hK
  · have q : w = 1 := neq_use (a := w) (b := 1) q
    subst q
    rw [show cw M D 1 = D 1 from rfl, ← hl.2.1] at hK
    exact hK
  · have q : w = 2 := neq_use (a := w) (b := 2) q
    subst q
    rw [show cw M D 2 = D 2 from rfl, ← hl.2.2.1] at hK
    exact hK
  · have q : w = 3 := neq_use (a := w) (b := 3) q
    subst q
    rw [show cw M D 3 = D 3 from rfl, ← hc.1] at hK
    exact hK
  · have q : w = 4 := neq_use (a := w) (b := 4) q
    subst q
    rw [show cw M D 4 = D 4 from rfl, ← hc.2.1] at hK
    exact hK
  · have q : w = 5 := neq_use (a := w) (b := 5) q
    subst q
    rw [show cw M D 5 = D 5 from rfl, ← hc.2.2.1] at hK
    exact hK
  · have q : w = 6 := neq_use (a := w) (b := 6) q
    subst q
    exact c_quickOnes hl hw hK
  · have q : w = 7 := neq_use (a := w) (b := 7) q
    subst q
    exact c_manyR hR hK
  · have q : w = 8 := neq_use (a := w) (b := 8) q
    subst q
    exact c_manyT hR hK
  · have q : w = 9 := neq_use (a := w) (b := 9) q
    subst q
    exact c_manyKept hk hK
end Count
