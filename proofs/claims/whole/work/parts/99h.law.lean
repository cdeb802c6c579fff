/-! ===== the law's loop ===== -/
theorem lb_I {d i j : Nat} {as : List ab_V} {M : ab_M} {Kf : ab_K} (h : OpI d i j as M) (hk : ∀ r1 M1, scE M M1 → ab_Call d j (vr 49 0 :: as) M1 (fun r2 M2 => (∃ v, r1 = some (vi v) ∧ r2 = some (vi v)) ∧ Rel M2 ∧ scE M1 M2) → Kf r1 M1) : ab_Call d i (vr 0 0 :: as) M Kf := by
  unfold OpI at h
  exact ab_Call_K (fun r M q => hk r M q.2 (ab_Call_K (fun r2 M2 z => ⟨z.1.1, z.1.2, z.2⟩) (ab_Call_T q.1))) (ab_Call_T h)
theorem lb_J {d i j : Nat} {as : List ab_V} {M : ab_M} {Kf : ab_K} (h : OpL d i j as M) (hk : ∀ r1 M1, scE M M1 → ab_Call d j (vr 49 0 :: as) M1 (fun r2 M2 => (∃ v, r1 = some (vl v) ∧ r2 = some (vl v)) ∧ Rel M2 ∧ scE M1 M2) → Kf r1 M1) : ab_Call d i (vr 0 0 :: as) M Kf := by
  unfold OpL at h
  exact ab_Call_K (fun r M q => hk r M q.2 (ab_Call_K (fun r2 M2 z => ⟨z.1.1, z.1.2, z.2⟩) (ab_Call_T q.1))) (ab_Call_T h)
def lb_L (i : Nat) : ab_L := [some (vr 71 0), some (vr 0 0), some (vr 49 0), some (vi (nI i))]
set_option maxRecDepth 1000000 in
set_option maxHeartbeats 4000000 in
theorem lb_loop : ∀ r i M, i + r = 400 → Rel M → M.2.2 71 0 0 ≤ 384 → lb_At miL_law 18 [some (vr 71 0), some (vr 0 0), some (vr 49 0), some (vi (nI i))] [] M := by
  intro r
  induction r using Nat.strongRecOn with
  | ind r ih =>
    intro i M hi hR hL
    refine lb_at ?_
    refine And.intro (fun q => ?_) (fun q => ?_)
    · exact rfl
    · have q6 : i + 6 ≤ M.2.2 71 0 0 := by
        rw [Int32.le_iff_toInt_le, pk_sub_toInt (by omega) (by omega), nI_toInt (by omega)] at q
        omega
      have nxt : ∀ M2, Rel M2 → M2.2.2 71 0 0 = M.2.2 71 0 0 → lb_At miL_law 18 [some (vr 71 0), some (vr 0 0), some (vr 49 0), some (vi (nI i + nI 6))] [] M2 := by
        intro M2 hR2 hL2
        have := ih (r - 6) (by omega) (i + 6) M2 (by omega) hR2 (by omega)
        rw [← nI_add] at this
        exact this
      refine ix_i i rfl (by omega) ?_
      refine And.intro (fun _ => nxt M hR rfl) (And.intro (fun _ => ?_) (And.intro (fun _ => ?_) (And.intro (fun _ => ?_) (And.intro (fun _ => ?_) (And.intro (fun _ => ?_) (And.intro (fun _ => ?_) (And.intro (fun _ => ?_) (And.intro (fun _ => ?_) (And.intro (fun _ => ?_) (And.intro (fun _ => ?_) (And.intro (fun _ => ?_) (And.intro (fun _ => ?_) (And.intro (fun _ => ?_) (And.intro (fun _ => ?_) (And.intro (fun _ => ?_) (And.intro (fun _ => ?_) (And.intro (fun _ => ?_) (And.intro (fun _ => ?_) (And.intro (fun _ => ?_) (And.intro (fun _ => ?_) (And.intro (fun _ => ?_) (And.intro (fun _ => ?_) (And.intro (fun _ => ?_) (And.intro (fun _ => ?_) (And.intro (fun _ => ?_) (And.intro (fun _ => ?_) (And.intro (fun _ => ?_) (And.intro (fun _ => ?_) (And.intro (fun _ => ?_) (And.intro (fun _ => ?_) (And.intro (fun _ => ?_) (And.intro (fun _ => ?_) (And.intro (fun _ => ?_) (And.intro (fun _ => ?_) (And.intro (fun _ => ?_) (And.intro (fun _ => ?_) (And.intro (fun _ => ?_) (And.intro (fun _ => ?_) (And.intro (fun _ => ?_) (And.intro (fun _ => ?_) (And.intro (fun _ => ?_) (And.intro (fun _ => ?_) (And.intro (fun _ => ?_) (And.intro (fun _ => ?_) (And.intro (fun _ => ?_) (And.intro (fun _ => ?_) (And.intro (fun _ => ?_) (trivial))))))))))))))))))))))))))))))))))))))))))))))))
      · refine ix_i (i + 1) (nI_add i 1) (show i + 1 < M.2.2 71 0 0 by omega) ?_
        refine ix_i (i + 2) (nI_add i 2) (show i + 2 < M.2.2 71 0 0 by omega) ?_
        refine lb_I (op_row (d := 37) hR) (fun r1 M1 s1 hc => ?_)
        rw [← s1.2 (i + 1) (by omega), ← s1.2 (i + 2) (by omega)] at hc
        have hL1 : M1.2.2 71 0 0 = M.2.2 71 0 0 := s1.1
        rcases r1 with _ | (y | y | y | y)
        · refine ix_i (i + 1) (nI_add i 1) (show i + 1 < M1.2.2 71 0 0 by omega) ?_
          refine ix_i (i + 2) (nI_add i 2) (show i + 2 < M1.2.2 71 0 0 by omega) ?_
          refine ab_Call_K (fun r2 M2 q => ?_) hc
          obtain ⟨⟨v, e1, e2⟩, hR2, s2⟩ := q
          cases e1
        · refine ix_i (i + 1) (nI_add i 1) (show i + 1 < M1.2.2 71 0 0 by omega) ?_
          refine ix_i (i + 2) (nI_add i 2) (show i + 2 < M1.2.2 71 0 0 by omega) ?_
          refine ab_Call_K (fun r2 M2 q => ?_) hc
          obtain ⟨⟨v, e1, e2⟩, hR2, s2⟩ := q
          cases e1
        · refine ix_i (i + 1) (nI_add i 1) (show i + 1 < M1.2.2 71 0 0 by omega) ?_
          refine ix_i (i + 2) (nI_add i 2) (show i + 2 < M1.2.2 71 0 0 by omega) ?_
          refine ab_Call_K (fun r2 M2 q => ?_) hc
          obtain ⟨⟨v, e1, e2⟩, hR2, s2⟩ := q
          cases e1
          cases e2
          exact And.intro (fun _ => nxt M2 hR2 (s2.1.trans hL1)) (fun z => absurd rfl z)
        · refine ix_i (i + 1) (nI_add i 1) (show i + 1 < M1.2.2 71 0 0 by omega) ?_
          refine ix_i (i + 2) (nI_add i 2) (show i + 2 < M1.2.2 71 0 0 by omega) ?_
          refine ab_Call_K (fun r2 M2 q => ?_) hc
          obtain ⟨⟨v, e1, e2⟩, hR2, s2⟩ := q
          cases e1
        · refine ix_i (i + 1) (nI_add i 1) (show i + 1 < M1.2.2 71 0 0 by omega) ?_
          refine ix_i (i + 2) (nI_add i 2) (show i + 2 < M1.2.2 71 0 0 by omega) ?_
          refine ab_Call_K (fun r2 M2 q => ?_) hc
          obtain ⟨⟨v, e1, e2⟩, hR2, s2⟩ := q
          cases e1
      · refine ix_i (i + 1) (nI_add i 1) (show i + 1 < M.2.2 71 0 0 by omega) ?_
        refine ix_i (i + 2) (nI_add i 2) (show i + 2 < M.2.2 71 0 0 by omega) ?_
        refine ix_i (i + 3) (nI_add i 3) (show i + 3 < M.2.2 71 0 0 by omega) ?_
        refine lb_I (op_lay (d := 36) hR) (fun r1 M1 s1 hc => ?_)
        rw [← s1.2 (i + 1) (by omega), ← s1.2 (i + 2) (by omega), ← s1.2 (i + 3) (by omega)] at hc
        have hL1 : M1.2.2 71 0 0 = M.2.2 71 0 0 := s1.1
        rcases r1 with _ | (y | y | y | y)
        · refine ix_i (i + 1) (nI_add i 1) (show i + 1 < M1.2.2 71 0 0 by omega) ?_
          refine ix_i (i + 2) (nI_add i 2) (show i + 2 < M1.2.2 71 0 0 by omega) ?_
          refine ix_i (i + 3) (nI_add i 3) (show i + 3 < M1.2.2 71 0 0 by omega) ?_
          refine ab_Call_K (fun r2 M2 q => ?_) hc
          obtain ⟨⟨v, e1, e2⟩, hR2, s2⟩ := q
          cases e1
        · refine ix_i (i + 1) (nI_add i 1) (show i + 1 < M1.2.2 71 0 0 by omega) ?_
          refine ix_i (i + 2) (nI_add i 2) (show i + 2 < M1.2.2 71 0 0 by omega) ?_
          refine ix_i (i + 3) (nI_add i 3) (show i + 3 < M1.2.2 71 0 0 by omega) ?_
          refine ab_Call_K (fun r2 M2 q => ?_) hc
          obtain ⟨⟨v, e1, e2⟩, hR2, s2⟩ := q
          cases e1
        · refine ix_i (i + 1) (nI_add i 1) (show i + 1 < M1.2.2 71 0 0 by omega) ?_
          refine ix_i (i + 2) (nI_add i 2) (show i + 2 < M1.2.2 71 0 0 by omega) ?_
          refine ix_i (i + 3) (nI_add i 3) (show i + 3 < M1.2.2 71 0 0 by omega) ?_
          refine ab_Call_K (fun r2 M2 q => ?_) hc
          obtain ⟨⟨v, e1, e2⟩, hR2, s2⟩ := q
          cases e1
          cases e2
          exact And.intro (fun _ => nxt M2 hR2 (s2.1.trans hL1)) (fun z => absurd rfl z)
        · refine ix_i (i + 1) (nI_add i 1) (show i + 1 < M1.2.2 71 0 0 by omega) ?_
          refine ix_i (i + 2) (nI_add i 2) (show i + 2 < M1.2.2 71 0 0 by omega) ?_
          refine ix_i (i + 3) (nI_add i 3) (show i + 3 < M1.2.2 71 0 0 by omega) ?_
          refine ab_Call_K (fun r2 M2 q => ?_) hc
          obtain ⟨⟨v, e1, e2⟩, hR2, s2⟩ := q
          cases e1
        · refine ix_i (i + 1) (nI_add i 1) (show i + 1 < M1.2.2 71 0 0 by omega) ?_
          refine ix_i (i + 2) (nI_add i 2) (show i + 2 < M1.2.2 71 0 0 by omega) ?_
          refine ix_i (i + 3) (nI_add i 3) (show i + 3 < M1.2.2 71 0 0 by omega) ?_
          refine ab_Call_K (fun r2 M2 q => ?_) hc
          obtain ⟨⟨v, e1, e2⟩, hR2, s2⟩ := q
          cases e1
      · refine ix_i (i + 1) (nI_add i 1) (show i + 1 < M.2.2 71 0 0 by omega) ?_
        refine ix_i (i + 2) (nI_add i 2) (show i + 2 < M.2.2 71 0 0 by omega) ?_
        refine lb_I (op_at (d := 36) hR) (fun r1 M1 s1 hc => ?_)
        rw [← s1.2 (i + 1) (by omega), ← s1.2 (i + 2) (by omega)] at hc
        have hL1 : M1.2.2 71 0 0 = M.2.2 71 0 0 := s1.1
        rcases r1 with _ | (y | y | y | y)
        · refine ix_i (i + 1) (nI_add i 1) (show i + 1 < M1.2.2 71 0 0 by omega) ?_
          refine ix_i (i + 2) (nI_add i 2) (show i + 2 < M1.2.2 71 0 0 by omega) ?_
          refine ab_Call_K (fun r2 M2 q => ?_) hc
          obtain ⟨⟨v, e1, e2⟩, hR2, s2⟩ := q
          cases e1
        · refine ix_i (i + 1) (nI_add i 1) (show i + 1 < M1.2.2 71 0 0 by omega) ?_
          refine ix_i (i + 2) (nI_add i 2) (show i + 2 < M1.2.2 71 0 0 by omega) ?_
          refine ab_Call_K (fun r2 M2 q => ?_) hc
          obtain ⟨⟨v, e1, e2⟩, hR2, s2⟩ := q
          cases e1
        · refine ix_i (i + 1) (nI_add i 1) (show i + 1 < M1.2.2 71 0 0 by omega) ?_
          refine ix_i (i + 2) (nI_add i 2) (show i + 2 < M1.2.2 71 0 0 by omega) ?_
          refine ab_Call_K (fun r2 M2 q => ?_) hc
          obtain ⟨⟨v, e1, e2⟩, hR2, s2⟩ := q
          cases e1
          cases e2
          exact And.intro (fun _ => nxt M2 hR2 (s2.1.trans hL1)) (fun z => absurd rfl z)
        · refine ix_i (i + 1) (nI_add i 1) (show i + 1 < M1.2.2 71 0 0 by omega) ?_
          refine ix_i (i + 2) (nI_add i 2) (show i + 2 < M1.2.2 71 0 0 by omega) ?_
          refine ab_Call_K (fun r2 M2 q => ?_) hc
          obtain ⟨⟨v, e1, e2⟩, hR2, s2⟩ := q
          cases e1
        · refine ix_i (i + 1) (nI_add i 1) (show i + 1 < M1.2.2 71 0 0 by omega) ?_
          refine ix_i (i + 2) (nI_add i 2) (show i + 2 < M1.2.2 71 0 0 by omega) ?_
          refine ab_Call_K (fun r2 M2 q => ?_) hc
          obtain ⟨⟨v, e1, e2⟩, hR2, s2⟩ := q
          cases e1
      · refine ix_i (i + 1) (nI_add i 1) (show i + 1 < M.2.2 71 0 0 by omega) ?_
        refine lb_I (op_tear (d := 36) hR) (fun r1 M1 s1 hc => ?_)
        rw [← s1.2 (i + 1) (by omega)] at hc
        have hL1 : M1.2.2 71 0 0 = M.2.2 71 0 0 := s1.1
        rcases r1 with _ | (y | y | y | y)
        · refine ix_i (i + 1) (nI_add i 1) (show i + 1 < M1.2.2 71 0 0 by omega) ?_
          refine ab_Call_K (fun r2 M2 q => ?_) hc
          obtain ⟨⟨v, e1, e2⟩, hR2, s2⟩ := q
          cases e1
        · refine ix_i (i + 1) (nI_add i 1) (show i + 1 < M1.2.2 71 0 0 by omega) ?_
          refine ab_Call_K (fun r2 M2 q => ?_) hc
          obtain ⟨⟨v, e1, e2⟩, hR2, s2⟩ := q
          cases e1
        · refine ix_i (i + 1) (nI_add i 1) (show i + 1 < M1.2.2 71 0 0 by omega) ?_
          refine ab_Call_K (fun r2 M2 q => ?_) hc
          obtain ⟨⟨v, e1, e2⟩, hR2, s2⟩ := q
          cases e1
          cases e2
          exact And.intro (fun _ => nxt M2 hR2 (s2.1.trans hL1)) (fun z => absurd rfl z)
        · refine ix_i (i + 1) (nI_add i 1) (show i + 1 < M1.2.2 71 0 0 by omega) ?_
          refine ab_Call_K (fun r2 M2 q => ?_) hc
          obtain ⟨⟨v, e1, e2⟩, hR2, s2⟩ := q
          cases e1
        · refine ix_i (i + 1) (nI_add i 1) (show i + 1 < M1.2.2 71 0 0 by omega) ?_
          refine ab_Call_K (fun r2 M2 q => ?_) hc
          obtain ⟨⟨v, e1, e2⟩, hR2, s2⟩ := q
          cases e1
      · refine ix_i (i + 1) (nI_add i 1) (show i + 1 < M.2.2 71 0 0 by omega) ?_
        refine ix_i (i + 2) (nI_add i 2) (show i + 2 < M.2.2 71 0 0 by omega) ?_
        refine ix_i (i + 3) (nI_add i 3) (show i + 3 < M.2.2 71 0 0 by omega) ?_
        refine ix_i (i + 4) (nI_add i 4) (show i + 4 < M.2.2 71 0 0 by omega) ?_
        refine ix_i (i + 5) (nI_add i 5) (show i + 5 < M.2.2 71 0 0 by omega) ?_
        refine lb_I (op_copy (d := 36) hR) (fun r1 M1 s1 hc => ?_)
        rw [← s1.2 (i + 1) (by omega), ← s1.2 (i + 2) (by omega), ← s1.2 (i + 3) (by omega), ← s1.2 (i + 4) (by omega), ← s1.2 (i + 5) (by omega)] at hc
        have hL1 : M1.2.2 71 0 0 = M.2.2 71 0 0 := s1.1
        rcases r1 with _ | (y | y | y | y)
        · refine ix_i (i + 1) (nI_add i 1) (show i + 1 < M1.2.2 71 0 0 by omega) ?_
          refine ix_i (i + 2) (nI_add i 2) (show i + 2 < M1.2.2 71 0 0 by omega) ?_
          refine ix_i (i + 3) (nI_add i 3) (show i + 3 < M1.2.2 71 0 0 by omega) ?_
          refine ix_i (i + 4) (nI_add i 4) (show i + 4 < M1.2.2 71 0 0 by omega) ?_
          refine ix_i (i + 5) (nI_add i 5) (show i + 5 < M1.2.2 71 0 0 by omega) ?_
          refine ab_Call_K (fun r2 M2 q => ?_) hc
          obtain ⟨⟨v, e1, e2⟩, hR2, s2⟩ := q
          cases e1
        · refine ix_i (i + 1) (nI_add i 1) (show i + 1 < M1.2.2 71 0 0 by omega) ?_
          refine ix_i (i + 2) (nI_add i 2) (show i + 2 < M1.2.2 71 0 0 by omega) ?_
          refine ix_i (i + 3) (nI_add i 3) (show i + 3 < M1.2.2 71 0 0 by omega) ?_
          refine ix_i (i + 4) (nI_add i 4) (show i + 4 < M1.2.2 71 0 0 by omega) ?_
          refine ix_i (i + 5) (nI_add i 5) (show i + 5 < M1.2.2 71 0 0 by omega) ?_
          refine ab_Call_K (fun r2 M2 q => ?_) hc
          obtain ⟨⟨v, e1, e2⟩, hR2, s2⟩ := q
          cases e1
        · refine ix_i (i + 1) (nI_add i 1) (show i + 1 < M1.2.2 71 0 0 by omega) ?_
          refine ix_i (i + 2) (nI_add i 2) (show i + 2 < M1.2.2 71 0 0 by omega) ?_
          refine ix_i (i + 3) (nI_add i 3) (show i + 3 < M1.2.2 71 0 0 by omega) ?_
          refine ix_i (i + 4) (nI_add i 4) (show i + 4 < M1.2.2 71 0 0 by omega) ?_
          refine ix_i (i + 5) (nI_add i 5) (show i + 5 < M1.2.2 71 0 0 by omega) ?_
          refine ab_Call_K (fun r2 M2 q => ?_) hc
          obtain ⟨⟨v, e1, e2⟩, hR2, s2⟩ := q
          cases e1
          cases e2
          exact And.intro (fun _ => nxt M2 hR2 (s2.1.trans hL1)) (fun z => absurd rfl z)
        · refine ix_i (i + 1) (nI_add i 1) (show i + 1 < M1.2.2 71 0 0 by omega) ?_
          refine ix_i (i + 2) (nI_add i 2) (show i + 2 < M1.2.2 71 0 0 by omega) ?_
          refine ix_i (i + 3) (nI_add i 3) (show i + 3 < M1.2.2 71 0 0 by omega) ?_
          refine ix_i (i + 4) (nI_add i 4) (show i + 4 < M1.2.2 71 0 0 by omega) ?_
          refine ix_i (i + 5) (nI_add i 5) (show i + 5 < M1.2.2 71 0 0 by omega) ?_
          refine ab_Call_K (fun r2 M2 q => ?_) hc
          obtain ⟨⟨v, e1, e2⟩, hR2, s2⟩ := q
          cases e1
        · refine ix_i (i + 1) (nI_add i 1) (show i + 1 < M1.2.2 71 0 0 by omega) ?_
          refine ix_i (i + 2) (nI_add i 2) (show i + 2 < M1.2.2 71 0 0 by omega) ?_
          refine ix_i (i + 3) (nI_add i 3) (show i + 3 < M1.2.2 71 0 0 by omega) ?_
          refine ix_i (i + 4) (nI_add i 4) (show i + 4 < M1.2.2 71 0 0 by omega) ?_
          refine ix_i (i + 5) (nI_add i 5) (show i + 5 < M1.2.2 71 0 0 by omega) ?_
          refine ab_Call_K (fun r2 M2 q => ?_) hc
          obtain ⟨⟨v, e1, e2⟩, hR2, s2⟩ := q
          cases e1
      · refine ix_i (i + 1) (nI_add i 1) (show i + 1 < M.2.2 71 0 0 by omega) ?_
        refine lb_I (op_mean (d := 36) hR) (fun r1 M1 s1 hc => ?_)
        rw [← s1.2 (i + 1) (by omega)] at hc
        have hL1 : M1.2.2 71 0 0 = M.2.2 71 0 0 := s1.1
        rcases r1 with _ | (y | y | y | y)
        · refine ix_i (i + 1) (nI_add i 1) (show i + 1 < M1.2.2 71 0 0 by omega) ?_
          refine ab_Call_K (fun r2 M2 q => ?_) hc
          obtain ⟨⟨v, e1, e2⟩, hR2, s2⟩ := q
          cases e1
        · refine ix_i (i + 1) (nI_add i 1) (show i + 1 < M1.2.2 71 0 0 by omega) ?_
          refine ab_Call_K (fun r2 M2 q => ?_) hc
          obtain ⟨⟨v, e1, e2⟩, hR2, s2⟩ := q
          cases e1
        · refine ix_i (i + 1) (nI_add i 1) (show i + 1 < M1.2.2 71 0 0 by omega) ?_
          refine ab_Call_K (fun r2 M2 q => ?_) hc
          obtain ⟨⟨v, e1, e2⟩, hR2, s2⟩ := q
          cases e1
          cases e2
          exact And.intro (fun _ => nxt M2 hR2 (s2.1.trans hL1)) (fun z => absurd rfl z)
        · refine ix_i (i + 1) (nI_add i 1) (show i + 1 < M1.2.2 71 0 0 by omega) ?_
          refine ab_Call_K (fun r2 M2 q => ?_) hc
          obtain ⟨⟨v, e1, e2⟩, hR2, s2⟩ := q
          cases e1
        · refine ix_i (i + 1) (nI_add i 1) (show i + 1 < M1.2.2 71 0 0 by omega) ?_
          refine ab_Call_K (fun r2 M2 q => ?_) hc
          obtain ⟨⟨v, e1, e2⟩, hR2, s2⟩ := q
          cases e1
      · refine ix_i (i + 1) (nI_add i 1) (show i + 1 < M.2.2 71 0 0 by omega) ?_
        refine ix_i (i + 2) (nI_add i 2) (show i + 2 < M.2.2 71 0 0 by omega) ?_
        refine lb_I (op_text (d := 37) hR) (fun r1 M1 s1 hc => ?_)
        rw [← s1.2 (i + 1) (by omega), ← s1.2 (i + 2) (by omega)] at hc
        have hL1 : M1.2.2 71 0 0 = M.2.2 71 0 0 := s1.1
        rcases r1 with _ | (y | y | y | y)
        · refine ix_i (i + 1) (nI_add i 1) (show i + 1 < M1.2.2 71 0 0 by omega) ?_
          refine ix_i (i + 2) (nI_add i 2) (show i + 2 < M1.2.2 71 0 0 by omega) ?_
          refine ab_Call_K (fun r2 M2 q => ?_) hc
          obtain ⟨⟨v, e1, e2⟩, hR2, s2⟩ := q
          cases e1
        · refine ix_i (i + 1) (nI_add i 1) (show i + 1 < M1.2.2 71 0 0 by omega) ?_
          refine ix_i (i + 2) (nI_add i 2) (show i + 2 < M1.2.2 71 0 0 by omega) ?_
          refine ab_Call_K (fun r2 M2 q => ?_) hc
          obtain ⟨⟨v, e1, e2⟩, hR2, s2⟩ := q
          cases e1
        · refine ix_i (i + 1) (nI_add i 1) (show i + 1 < M1.2.2 71 0 0 by omega) ?_
          refine ix_i (i + 2) (nI_add i 2) (show i + 2 < M1.2.2 71 0 0 by omega) ?_
          refine ab_Call_K (fun r2 M2 q => ?_) hc
          obtain ⟨⟨v, e1, e2⟩, hR2, s2⟩ := q
          cases e1
          cases e2
          exact And.intro (fun _ => nxt M2 hR2 (s2.1.trans hL1)) (fun z => absurd rfl z)
        · refine ix_i (i + 1) (nI_add i 1) (show i + 1 < M1.2.2 71 0 0 by omega) ?_
          refine ix_i (i + 2) (nI_add i 2) (show i + 2 < M1.2.2 71 0 0 by omega) ?_
          refine ab_Call_K (fun r2 M2 q => ?_) hc
          obtain ⟨⟨v, e1, e2⟩, hR2, s2⟩ := q
          cases e1
        · refine ix_i (i + 1) (nI_add i 1) (show i + 1 < M1.2.2 71 0 0 by omega) ?_
          refine ix_i (i + 2) (nI_add i 2) (show i + 2 < M1.2.2 71 0 0 by omega) ?_
          refine ab_Call_K (fun r2 M2 q => ?_) hc
          obtain ⟨⟨v, e1, e2⟩, hR2, s2⟩ := q
          cases e1
      · refine ix_i (i + 1) (nI_add i 1) (show i + 1 < M.2.2 71 0 0 by omega) ?_
        refine ix_i (i + 2) (nI_add i 2) (show i + 2 < M.2.2 71 0 0 by omega) ?_
        refine ix_i (i + 3) (nI_add i 3) (show i + 3 < M.2.2 71 0 0 by omega) ?_
        refine lb_I (op_put (d := 36) hR) (fun r1 M1 s1 hc => ?_)
        rw [← s1.2 (i + 1) (by omega), ← s1.2 (i + 2) (by omega), ← s1.2 (i + 3) (by omega)] at hc
        have hL1 : M1.2.2 71 0 0 = M.2.2 71 0 0 := s1.1
        rcases r1 with _ | (y | y | y | y)
        · refine ix_i (i + 1) (nI_add i 1) (show i + 1 < M1.2.2 71 0 0 by omega) ?_
          refine ix_i (i + 2) (nI_add i 2) (show i + 2 < M1.2.2 71 0 0 by omega) ?_
          refine ix_i (i + 3) (nI_add i 3) (show i + 3 < M1.2.2 71 0 0 by omega) ?_
          refine ab_Call_K (fun r2 M2 q => ?_) hc
          obtain ⟨⟨v, e1, e2⟩, hR2, s2⟩ := q
          cases e1
        · refine ix_i (i + 1) (nI_add i 1) (show i + 1 < M1.2.2 71 0 0 by omega) ?_
          refine ix_i (i + 2) (nI_add i 2) (show i + 2 < M1.2.2 71 0 0 by omega) ?_
          refine ix_i (i + 3) (nI_add i 3) (show i + 3 < M1.2.2 71 0 0 by omega) ?_
          refine ab_Call_K (fun r2 M2 q => ?_) hc
          obtain ⟨⟨v, e1, e2⟩, hR2, s2⟩ := q
          cases e1
        · refine ix_i (i + 1) (nI_add i 1) (show i + 1 < M1.2.2 71 0 0 by omega) ?_
          refine ix_i (i + 2) (nI_add i 2) (show i + 2 < M1.2.2 71 0 0 by omega) ?_
          refine ix_i (i + 3) (nI_add i 3) (show i + 3 < M1.2.2 71 0 0 by omega) ?_
          refine ab_Call_K (fun r2 M2 q => ?_) hc
          obtain ⟨⟨v, e1, e2⟩, hR2, s2⟩ := q
          cases e1
          cases e2
          exact And.intro (fun _ => nxt M2 hR2 (s2.1.trans hL1)) (fun z => absurd rfl z)
        · refine ix_i (i + 1) (nI_add i 1) (show i + 1 < M1.2.2 71 0 0 by omega) ?_
          refine ix_i (i + 2) (nI_add i 2) (show i + 2 < M1.2.2 71 0 0 by omega) ?_
          refine ix_i (i + 3) (nI_add i 3) (show i + 3 < M1.2.2 71 0 0 by omega) ?_
          refine ab_Call_K (fun r2 M2 q => ?_) hc
          obtain ⟨⟨v, e1, e2⟩, hR2, s2⟩ := q
          cases e1
        · refine ix_i (i + 1) (nI_add i 1) (show i + 1 < M1.2.2 71 0 0 by omega) ?_
          refine ix_i (i + 2) (nI_add i 2) (show i + 2 < M1.2.2 71 0 0 by omega) ?_
          refine ix_i (i + 3) (nI_add i 3) (show i + 3 < M1.2.2 71 0 0 by omega) ?_
          refine ab_Call_K (fun r2 M2 q => ?_) hc
          obtain ⟨⟨v, e1, e2⟩, hR2, s2⟩ := q
          cases e1
      · refine ix_i (i + 1) (nI_add i 1) (show i + 1 < M.2.2 71 0 0 by omega) ?_
        refine lb_I (op_fault (d := 35) hR) (fun r1 M1 s1 hc => ?_)
        rw [← s1.2 (i + 1) (by omega)] at hc
        have hL1 : M1.2.2 71 0 0 = M.2.2 71 0 0 := s1.1
        rcases r1 with _ | (y | y | y | y)
        · refine ix_i (i + 1) (nI_add i 1) (show i + 1 < M1.2.2 71 0 0 by omega) ?_
          refine ab_Call_K (fun r2 M2 q => ?_) hc
          obtain ⟨⟨v, e1, e2⟩, hR2, s2⟩ := q
          cases e1
        · refine ix_i (i + 1) (nI_add i 1) (show i + 1 < M1.2.2 71 0 0 by omega) ?_
          refine ab_Call_K (fun r2 M2 q => ?_) hc
          obtain ⟨⟨v, e1, e2⟩, hR2, s2⟩ := q
          cases e1
        · refine ix_i (i + 1) (nI_add i 1) (show i + 1 < M1.2.2 71 0 0 by omega) ?_
          refine ab_Call_K (fun r2 M2 q => ?_) hc
          obtain ⟨⟨v, e1, e2⟩, hR2, s2⟩ := q
          cases e1
          cases e2
          exact And.intro (fun _ => nxt M2 hR2 (s2.1.trans hL1)) (fun z => absurd rfl z)
        · refine ix_i (i + 1) (nI_add i 1) (show i + 1 < M1.2.2 71 0 0 by omega) ?_
          refine ab_Call_K (fun r2 M2 q => ?_) hc
          obtain ⟨⟨v, e1, e2⟩, hR2, s2⟩ := q
          cases e1
        · refine ix_i (i + 1) (nI_add i 1) (show i + 1 < M1.2.2 71 0 0 by omega) ?_
          refine ab_Call_K (fun r2 M2 q => ?_) hc
          obtain ⟨⟨v, e1, e2⟩, hR2, s2⟩ := q
          cases e1
      · refine ix_i (i + 1) (nI_add i 1) (show i + 1 < M.2.2 71 0 0 by omega) ?_
        refine lb_I (op_country (d := 35) hR) (fun r1 M1 s1 hc => ?_)
        rw [← s1.2 (i + 1) (by omega)] at hc
        have hL1 : M1.2.2 71 0 0 = M.2.2 71 0 0 := s1.1
        rcases r1 with _ | (y | y | y | y)
        · refine ix_i (i + 1) (nI_add i 1) (show i + 1 < M1.2.2 71 0 0 by omega) ?_
          refine ab_Call_K (fun r2 M2 q => ?_) hc
          obtain ⟨⟨v, e1, e2⟩, hR2, s2⟩ := q
          cases e1
        · refine ix_i (i + 1) (nI_add i 1) (show i + 1 < M1.2.2 71 0 0 by omega) ?_
          refine ab_Call_K (fun r2 M2 q => ?_) hc
          obtain ⟨⟨v, e1, e2⟩, hR2, s2⟩ := q
          cases e1
        · refine ix_i (i + 1) (nI_add i 1) (show i + 1 < M1.2.2 71 0 0 by omega) ?_
          refine ab_Call_K (fun r2 M2 q => ?_) hc
          obtain ⟨⟨v, e1, e2⟩, hR2, s2⟩ := q
          cases e1
          cases e2
          exact And.intro (fun _ => nxt M2 hR2 (s2.1.trans hL1)) (fun z => absurd rfl z)
        · refine ix_i (i + 1) (nI_add i 1) (show i + 1 < M1.2.2 71 0 0 by omega) ?_
          refine ab_Call_K (fun r2 M2 q => ?_) hc
          obtain ⟨⟨v, e1, e2⟩, hR2, s2⟩ := q
          cases e1
        · refine ix_i (i + 1) (nI_add i 1) (show i + 1 < M1.2.2 71 0 0 by omega) ?_
          refine ab_Call_K (fun r2 M2 q => ?_) hc
          obtain ⟨⟨v, e1, e2⟩, hR2, s2⟩ := q
          cases e1
      · refine ix_i (i + 1) (nI_add i 1) (show i + 1 < M.2.2 71 0 0 by omega) ?_
        refine ix_i (i + 2) (nI_add i 2) (show i + 2 < M.2.2 71 0 0 by omega) ?_
        refine lb_I (op_hound (d := 34) hR) (fun r1 M1 s1 hc => ?_)
        rw [← s1.2 (i + 1) (by omega), ← s1.2 (i + 2) (by omega)] at hc
        have hL1 : M1.2.2 71 0 0 = M.2.2 71 0 0 := s1.1
        rcases r1 with _ | (y | y | y | y)
        · refine ix_i (i + 1) (nI_add i 1) (show i + 1 < M1.2.2 71 0 0 by omega) ?_
          refine ix_i (i + 2) (nI_add i 2) (show i + 2 < M1.2.2 71 0 0 by omega) ?_
          refine ab_Call_K (fun r2 M2 q => ?_) hc
          obtain ⟨⟨v, e1, e2⟩, hR2, s2⟩ := q
          cases e1
        · refine ix_i (i + 1) (nI_add i 1) (show i + 1 < M1.2.2 71 0 0 by omega) ?_
          refine ix_i (i + 2) (nI_add i 2) (show i + 2 < M1.2.2 71 0 0 by omega) ?_
          refine ab_Call_K (fun r2 M2 q => ?_) hc
          obtain ⟨⟨v, e1, e2⟩, hR2, s2⟩ := q
          cases e1
        · refine ix_i (i + 1) (nI_add i 1) (show i + 1 < M1.2.2 71 0 0 by omega) ?_
          refine ix_i (i + 2) (nI_add i 2) (show i + 2 < M1.2.2 71 0 0 by omega) ?_
          refine ab_Call_K (fun r2 M2 q => ?_) hc
          obtain ⟨⟨v, e1, e2⟩, hR2, s2⟩ := q
          cases e1
          cases e2
          exact And.intro (fun _ => nxt M2 hR2 (s2.1.trans hL1)) (fun z => absurd rfl z)
        · refine ix_i (i + 1) (nI_add i 1) (show i + 1 < M1.2.2 71 0 0 by omega) ?_
          refine ix_i (i + 2) (nI_add i 2) (show i + 2 < M1.2.2 71 0 0 by omega) ?_
          refine ab_Call_K (fun r2 M2 q => ?_) hc
          obtain ⟨⟨v, e1, e2⟩, hR2, s2⟩ := q
          cases e1
        · refine ix_i (i + 1) (nI_add i 1) (show i + 1 < M1.2.2 71 0 0 by omega) ?_
          refine ix_i (i + 2) (nI_add i 2) (show i + 2 < M1.2.2 71 0 0 by omega) ?_
          refine ab_Call_K (fun r2 M2 q => ?_) hc
          obtain ⟨⟨v, e1, e2⟩, hR2, s2⟩ := q
          cases e1
      · refine ix_i (i + 1) (nI_add i 1) (show i + 1 < M.2.2 71 0 0 by omega) ?_
        refine ix_i (i + 2) (nI_add i 2) (show i + 2 < M.2.2 71 0 0 by omega) ?_
        refine lb_I (op_mark (d := 35) hR) (fun r1 M1 s1 hc => ?_)
        rw [← s1.2 (i + 1) (by omega), ← s1.2 (i + 2) (by omega)] at hc
        have hL1 : M1.2.2 71 0 0 = M.2.2 71 0 0 := s1.1
        rcases r1 with _ | (y | y | y | y)
        · refine ix_i (i + 1) (nI_add i 1) (show i + 1 < M1.2.2 71 0 0 by omega) ?_
          refine ix_i (i + 2) (nI_add i 2) (show i + 2 < M1.2.2 71 0 0 by omega) ?_
          refine ab_Call_K (fun r2 M2 q => ?_) hc
          obtain ⟨⟨v, e1, e2⟩, hR2, s2⟩ := q
          cases e1
        · refine ix_i (i + 1) (nI_add i 1) (show i + 1 < M1.2.2 71 0 0 by omega) ?_
          refine ix_i (i + 2) (nI_add i 2) (show i + 2 < M1.2.2 71 0 0 by omega) ?_
          refine ab_Call_K (fun r2 M2 q => ?_) hc
          obtain ⟨⟨v, e1, e2⟩, hR2, s2⟩ := q
          cases e1
        · refine ix_i (i + 1) (nI_add i 1) (show i + 1 < M1.2.2 71 0 0 by omega) ?_
          refine ix_i (i + 2) (nI_add i 2) (show i + 2 < M1.2.2 71 0 0 by omega) ?_
          refine ab_Call_K (fun r2 M2 q => ?_) hc
          obtain ⟨⟨v, e1, e2⟩, hR2, s2⟩ := q
          cases e1
          cases e2
          exact And.intro (fun _ => nxt M2 hR2 (s2.1.trans hL1)) (fun z => absurd rfl z)
        · refine ix_i (i + 1) (nI_add i 1) (show i + 1 < M1.2.2 71 0 0 by omega) ?_
          refine ix_i (i + 2) (nI_add i 2) (show i + 2 < M1.2.2 71 0 0 by omega) ?_
          refine ab_Call_K (fun r2 M2 q => ?_) hc
          obtain ⟨⟨v, e1, e2⟩, hR2, s2⟩ := q
          cases e1
        · refine ix_i (i + 1) (nI_add i 1) (show i + 1 < M1.2.2 71 0 0 by omega) ?_
          refine ix_i (i + 2) (nI_add i 2) (show i + 2 < M1.2.2 71 0 0 by omega) ?_
          refine ab_Call_K (fun r2 M2 q => ?_) hc
          obtain ⟨⟨v, e1, e2⟩, hR2, s2⟩ := q
          cases e1
      · refine ix_i (i + 1) (nI_add i 1) (show i + 1 < M.2.2 71 0 0 by omega) ?_
        refine ix_i (i + 2) (nI_add i 2) (show i + 2 < M.2.2 71 0 0 by omega) ?_
        refine lb_I (op_minutes (d := 37) hR) (fun r1 M1 s1 hc => ?_)
        rw [← s1.2 (i + 1) (by omega), ← s1.2 (i + 2) (by omega)] at hc
        have hL1 : M1.2.2 71 0 0 = M.2.2 71 0 0 := s1.1
        rcases r1 with _ | (y | y | y | y)
        · refine ix_i (i + 1) (nI_add i 1) (show i + 1 < M1.2.2 71 0 0 by omega) ?_
          refine ix_i (i + 2) (nI_add i 2) (show i + 2 < M1.2.2 71 0 0 by omega) ?_
          refine ab_Call_K (fun r2 M2 q => ?_) hc
          obtain ⟨⟨v, e1, e2⟩, hR2, s2⟩ := q
          cases e1
        · refine ix_i (i + 1) (nI_add i 1) (show i + 1 < M1.2.2 71 0 0 by omega) ?_
          refine ix_i (i + 2) (nI_add i 2) (show i + 2 < M1.2.2 71 0 0 by omega) ?_
          refine ab_Call_K (fun r2 M2 q => ?_) hc
          obtain ⟨⟨v, e1, e2⟩, hR2, s2⟩ := q
          cases e1
        · refine ix_i (i + 1) (nI_add i 1) (show i + 1 < M1.2.2 71 0 0 by omega) ?_
          refine ix_i (i + 2) (nI_add i 2) (show i + 2 < M1.2.2 71 0 0 by omega) ?_
          refine ab_Call_K (fun r2 M2 q => ?_) hc
          obtain ⟨⟨v, e1, e2⟩, hR2, s2⟩ := q
          cases e1
          cases e2
          exact And.intro (fun _ => nxt M2 hR2 (s2.1.trans hL1)) (fun z => absurd rfl z)
        · refine ix_i (i + 1) (nI_add i 1) (show i + 1 < M1.2.2 71 0 0 by omega) ?_
          refine ix_i (i + 2) (nI_add i 2) (show i + 2 < M1.2.2 71 0 0 by omega) ?_
          refine ab_Call_K (fun r2 M2 q => ?_) hc
          obtain ⟨⟨v, e1, e2⟩, hR2, s2⟩ := q
          cases e1
        · refine ix_i (i + 1) (nI_add i 1) (show i + 1 < M1.2.2 71 0 0 by omega) ?_
          refine ix_i (i + 2) (nI_add i 2) (show i + 2 < M1.2.2 71 0 0 by omega) ?_
          refine ab_Call_K (fun r2 M2 q => ?_) hc
          obtain ⟨⟨v, e1, e2⟩, hR2, s2⟩ := q
          cases e1
      · refine ix_i (i + 1) (nI_add i 1) (show i + 1 < M.2.2 71 0 0 by omega) ?_
        refine lb_I (op_head (d := 38) hR) (fun r1 M1 s1 hc => ?_)
        rw [← s1.2 (i + 1) (by omega)] at hc
        have hL1 : M1.2.2 71 0 0 = M.2.2 71 0 0 := s1.1
        rcases r1 with _ | (y | y | y | y)
        · refine ix_i (i + 1) (nI_add i 1) (show i + 1 < M1.2.2 71 0 0 by omega) ?_
          refine ab_Call_K (fun r2 M2 q => ?_) hc
          obtain ⟨⟨v, e1, e2⟩, hR2, s2⟩ := q
          cases e1
        · refine ix_i (i + 1) (nI_add i 1) (show i + 1 < M1.2.2 71 0 0 by omega) ?_
          refine ab_Call_K (fun r2 M2 q => ?_) hc
          obtain ⟨⟨v, e1, e2⟩, hR2, s2⟩ := q
          cases e1
        · refine ix_i (i + 1) (nI_add i 1) (show i + 1 < M1.2.2 71 0 0 by omega) ?_
          refine ab_Call_K (fun r2 M2 q => ?_) hc
          obtain ⟨⟨v, e1, e2⟩, hR2, s2⟩ := q
          cases e1
          cases e2
          exact And.intro (fun _ => nxt M2 hR2 (s2.1.trans hL1)) (fun z => absurd rfl z)
        · refine ix_i (i + 1) (nI_add i 1) (show i + 1 < M1.2.2 71 0 0 by omega) ?_
          refine ab_Call_K (fun r2 M2 q => ?_) hc
          obtain ⟨⟨v, e1, e2⟩, hR2, s2⟩ := q
          cases e1
        · refine ix_i (i + 1) (nI_add i 1) (show i + 1 < M1.2.2 71 0 0 by omega) ?_
          refine ab_Call_K (fun r2 M2 q => ?_) hc
          obtain ⟨⟨v, e1, e2⟩, hR2, s2⟩ := q
          cases e1
      · refine ix_i (i + 1) (nI_add i 1) (show i + 1 < M.2.2 71 0 0 by omega) ?_
        refine lb_I (op_trail (d := 37) hR) (fun r1 M1 s1 hc => ?_)
        rw [← s1.2 (i + 1) (by omega)] at hc
        have hL1 : M1.2.2 71 0 0 = M.2.2 71 0 0 := s1.1
        rcases r1 with _ | (y | y | y | y)
        · refine ix_i (i + 1) (nI_add i 1) (show i + 1 < M1.2.2 71 0 0 by omega) ?_
          refine ab_Call_K (fun r2 M2 q => ?_) hc
          obtain ⟨⟨v, e1, e2⟩, hR2, s2⟩ := q
          cases e1
        · refine ix_i (i + 1) (nI_add i 1) (show i + 1 < M1.2.2 71 0 0 by omega) ?_
          refine ab_Call_K (fun r2 M2 q => ?_) hc
          obtain ⟨⟨v, e1, e2⟩, hR2, s2⟩ := q
          cases e1
        · refine ix_i (i + 1) (nI_add i 1) (show i + 1 < M1.2.2 71 0 0 by omega) ?_
          refine ab_Call_K (fun r2 M2 q => ?_) hc
          obtain ⟨⟨v, e1, e2⟩, hR2, s2⟩ := q
          cases e1
          cases e2
          exact And.intro (fun _ => nxt M2 hR2 (s2.1.trans hL1)) (fun z => absurd rfl z)
        · refine ix_i (i + 1) (nI_add i 1) (show i + 1 < M1.2.2 71 0 0 by omega) ?_
          refine ab_Call_K (fun r2 M2 q => ?_) hc
          obtain ⟨⟨v, e1, e2⟩, hR2, s2⟩ := q
          cases e1
        · refine ix_i (i + 1) (nI_add i 1) (show i + 1 < M1.2.2 71 0 0 by omega) ?_
          refine ab_Call_K (fun r2 M2 q => ?_) hc
          obtain ⟨⟨v, e1, e2⟩, hR2, s2⟩ := q
          cases e1
      · refine ix_i (i + 1) (nI_add i 1) (show i + 1 < M.2.2 71 0 0 by omega) ?_
        refine ix_i (i + 2) (nI_add i 2) (show i + 2 < M.2.2 71 0 0 by omega) ?_
        refine ix_i (i + 3) (nI_add i 3) (show i + 3 < M.2.2 71 0 0 by omega) ?_
        refine lb_I (op_lure (d := 37) hR) (fun r1 M1 s1 hc => ?_)
        rw [← s1.2 (i + 1) (by omega), ← s1.2 (i + 2) (by omega), ← s1.2 (i + 3) (by omega)] at hc
        have hL1 : M1.2.2 71 0 0 = M.2.2 71 0 0 := s1.1
        rcases r1 with _ | (y | y | y | y)
        · refine ix_i (i + 1) (nI_add i 1) (show i + 1 < M1.2.2 71 0 0 by omega) ?_
          refine ix_i (i + 2) (nI_add i 2) (show i + 2 < M1.2.2 71 0 0 by omega) ?_
          refine ix_i (i + 3) (nI_add i 3) (show i + 3 < M1.2.2 71 0 0 by omega) ?_
          refine ab_Call_K (fun r2 M2 q => ?_) hc
          obtain ⟨⟨v, e1, e2⟩, hR2, s2⟩ := q
          cases e1
        · refine ix_i (i + 1) (nI_add i 1) (show i + 1 < M1.2.2 71 0 0 by omega) ?_
          refine ix_i (i + 2) (nI_add i 2) (show i + 2 < M1.2.2 71 0 0 by omega) ?_
          refine ix_i (i + 3) (nI_add i 3) (show i + 3 < M1.2.2 71 0 0 by omega) ?_
          refine ab_Call_K (fun r2 M2 q => ?_) hc
          obtain ⟨⟨v, e1, e2⟩, hR2, s2⟩ := q
          cases e1
        · refine ix_i (i + 1) (nI_add i 1) (show i + 1 < M1.2.2 71 0 0 by omega) ?_
          refine ix_i (i + 2) (nI_add i 2) (show i + 2 < M1.2.2 71 0 0 by omega) ?_
          refine ix_i (i + 3) (nI_add i 3) (show i + 3 < M1.2.2 71 0 0 by omega) ?_
          refine ab_Call_K (fun r2 M2 q => ?_) hc
          obtain ⟨⟨v, e1, e2⟩, hR2, s2⟩ := q
          cases e1
          cases e2
          exact And.intro (fun _ => nxt M2 hR2 (s2.1.trans hL1)) (fun z => absurd rfl z)
        · refine ix_i (i + 1) (nI_add i 1) (show i + 1 < M1.2.2 71 0 0 by omega) ?_
          refine ix_i (i + 2) (nI_add i 2) (show i + 2 < M1.2.2 71 0 0 by omega) ?_
          refine ix_i (i + 3) (nI_add i 3) (show i + 3 < M1.2.2 71 0 0 by omega) ?_
          refine ab_Call_K (fun r2 M2 q => ?_) hc
          obtain ⟨⟨v, e1, e2⟩, hR2, s2⟩ := q
          cases e1
        · refine ix_i (i + 1) (nI_add i 1) (show i + 1 < M1.2.2 71 0 0 by omega) ?_
          refine ix_i (i + 2) (nI_add i 2) (show i + 2 < M1.2.2 71 0 0 by omega) ?_
          refine ix_i (i + 3) (nI_add i 3) (show i + 3 < M1.2.2 71 0 0 by omega) ?_
          refine ab_Call_K (fun r2 M2 q => ?_) hc
          obtain ⟨⟨v, e1, e2⟩, hR2, s2⟩ := q
          cases e1
      · refine ix_i (i + 1) (nI_add i 1) (show i + 1 < M.2.2 71 0 0 by omega) ?_
        refine lb_I (op_off (d := 38) hR) (fun r1 M1 s1 hc => ?_)
        rw [← s1.2 (i + 1) (by omega)] at hc
        have hL1 : M1.2.2 71 0 0 = M.2.2 71 0 0 := s1.1
        rcases r1 with _ | (y | y | y | y)
        · refine ix_i (i + 1) (nI_add i 1) (show i + 1 < M1.2.2 71 0 0 by omega) ?_
          refine ab_Call_K (fun r2 M2 q => ?_) hc
          obtain ⟨⟨v, e1, e2⟩, hR2, s2⟩ := q
          cases e1
        · refine ix_i (i + 1) (nI_add i 1) (show i + 1 < M1.2.2 71 0 0 by omega) ?_
          refine ab_Call_K (fun r2 M2 q => ?_) hc
          obtain ⟨⟨v, e1, e2⟩, hR2, s2⟩ := q
          cases e1
        · refine ix_i (i + 1) (nI_add i 1) (show i + 1 < M1.2.2 71 0 0 by omega) ?_
          refine ab_Call_K (fun r2 M2 q => ?_) hc
          obtain ⟨⟨v, e1, e2⟩, hR2, s2⟩ := q
          cases e1
          cases e2
          exact And.intro (fun _ => nxt M2 hR2 (s2.1.trans hL1)) (fun z => absurd rfl z)
        · refine ix_i (i + 1) (nI_add i 1) (show i + 1 < M1.2.2 71 0 0 by omega) ?_
          refine ab_Call_K (fun r2 M2 q => ?_) hc
          obtain ⟨⟨v, e1, e2⟩, hR2, s2⟩ := q
          cases e1
        · refine ix_i (i + 1) (nI_add i 1) (show i + 1 < M1.2.2 71 0 0 by omega) ?_
          refine ab_Call_K (fun r2 M2 q => ?_) hc
          obtain ⟨⟨v, e1, e2⟩, hR2, s2⟩ := q
          cases e1
      · refine ix_i (i + 1) (nI_add i 1) (show i + 1 < M.2.2 71 0 0 by omega) ?_
        refine lb_I (op_wind (d := 38) hR) (fun r1 M1 s1 hc => ?_)
        rw [← s1.2 (i + 1) (by omega)] at hc
        have hL1 : M1.2.2 71 0 0 = M.2.2 71 0 0 := s1.1
        rcases r1 with _ | (y | y | y | y)
        · refine ix_i (i + 1) (nI_add i 1) (show i + 1 < M1.2.2 71 0 0 by omega) ?_
          refine ab_Call_K (fun r2 M2 q => ?_) hc
          obtain ⟨⟨v, e1, e2⟩, hR2, s2⟩ := q
          cases e1
        · refine ix_i (i + 1) (nI_add i 1) (show i + 1 < M1.2.2 71 0 0 by omega) ?_
          refine ab_Call_K (fun r2 M2 q => ?_) hc
          obtain ⟨⟨v, e1, e2⟩, hR2, s2⟩ := q
          cases e1
        · refine ix_i (i + 1) (nI_add i 1) (show i + 1 < M1.2.2 71 0 0 by omega) ?_
          refine ab_Call_K (fun r2 M2 q => ?_) hc
          obtain ⟨⟨v, e1, e2⟩, hR2, s2⟩ := q
          cases e1
          cases e2
          exact And.intro (fun _ => nxt M2 hR2 (s2.1.trans hL1)) (fun z => absurd rfl z)
        · refine ix_i (i + 1) (nI_add i 1) (show i + 1 < M1.2.2 71 0 0 by omega) ?_
          refine ab_Call_K (fun r2 M2 q => ?_) hc
          obtain ⟨⟨v, e1, e2⟩, hR2, s2⟩ := q
          cases e1
        · refine ix_i (i + 1) (nI_add i 1) (show i + 1 < M1.2.2 71 0 0 by omega) ?_
          refine ab_Call_K (fun r2 M2 q => ?_) hc
          obtain ⟨⟨v, e1, e2⟩, hR2, s2⟩ := q
          cases e1
      · refine lb_I (op_paper (d := 36) hR) (fun r1 M1 s1 hc => ?_)
        have hL1 : M1.2.2 71 0 0 = M.2.2 71 0 0 := s1.1
        rcases r1 with _ | (y | y | y | y)
        · refine ab_Call_K (fun r2 M2 q => ?_) hc
          obtain ⟨⟨v, e1, e2⟩, hR2, s2⟩ := q
          cases e1
        · refine ab_Call_K (fun r2 M2 q => ?_) hc
          obtain ⟨⟨v, e1, e2⟩, hR2, s2⟩ := q
          cases e1
        · refine ab_Call_K (fun r2 M2 q => ?_) hc
          obtain ⟨⟨v, e1, e2⟩, hR2, s2⟩ := q
          cases e1
          cases e2
          exact And.intro (fun _ => nxt M2 hR2 (s2.1.trans hL1)) (fun z => absurd rfl z)
        · refine ab_Call_K (fun r2 M2 q => ?_) hc
          obtain ⟨⟨v, e1, e2⟩, hR2, s2⟩ := q
          cases e1
        · refine ab_Call_K (fun r2 M2 q => ?_) hc
          obtain ⟨⟨v, e1, e2⟩, hR2, s2⟩ := q
          cases e1
      · refine ix_i (i + 1) (nI_add i 1) (show i + 1 < M.2.2 71 0 0 by omega) ?_
        refine lb_I (op_empty (d := 37) hR) (fun r1 M1 s1 hc => ?_)
        rw [← s1.2 (i + 1) (by omega)] at hc
        have hL1 : M1.2.2 71 0 0 = M.2.2 71 0 0 := s1.1
        rcases r1 with _ | (y | y | y | y)
        · refine ix_i (i + 1) (nI_add i 1) (show i + 1 < M1.2.2 71 0 0 by omega) ?_
          refine ab_Call_K (fun r2 M2 q => ?_) hc
          obtain ⟨⟨v, e1, e2⟩, hR2, s2⟩ := q
          cases e1
        · refine ix_i (i + 1) (nI_add i 1) (show i + 1 < M1.2.2 71 0 0 by omega) ?_
          refine ab_Call_K (fun r2 M2 q => ?_) hc
          obtain ⟨⟨v, e1, e2⟩, hR2, s2⟩ := q
          cases e1
        · refine ix_i (i + 1) (nI_add i 1) (show i + 1 < M1.2.2 71 0 0 by omega) ?_
          refine ab_Call_K (fun r2 M2 q => ?_) hc
          obtain ⟨⟨v, e1, e2⟩, hR2, s2⟩ := q
          cases e1
          cases e2
          exact And.intro (fun _ => nxt M2 hR2 (s2.1.trans hL1)) (fun z => absurd rfl z)
        · refine ix_i (i + 1) (nI_add i 1) (show i + 1 < M1.2.2 71 0 0 by omega) ?_
          refine ab_Call_K (fun r2 M2 q => ?_) hc
          obtain ⟨⟨v, e1, e2⟩, hR2, s2⟩ := q
          cases e1
        · refine ix_i (i + 1) (nI_add i 1) (show i + 1 < M1.2.2 71 0 0 by omega) ?_
          refine ab_Call_K (fun r2 M2 q => ?_) hc
          obtain ⟨⟨v, e1, e2⟩, hR2, s2⟩ := q
          cases e1
      · refine ix_i (i + 1) (nI_add i 1) (show i + 1 < M.2.2 71 0 0 by omega) ?_
        refine lb_I (op_keep (d := 37) hR) (fun r1 M1 s1 hc => ?_)
        rw [← s1.2 (i + 1) (by omega)] at hc
        have hL1 : M1.2.2 71 0 0 = M.2.2 71 0 0 := s1.1
        rcases r1 with _ | (y | y | y | y)
        · refine ix_i (i + 1) (nI_add i 1) (show i + 1 < M1.2.2 71 0 0 by omega) ?_
          refine ab_Call_K (fun r2 M2 q => ?_) hc
          obtain ⟨⟨v, e1, e2⟩, hR2, s2⟩ := q
          cases e1
        · refine ix_i (i + 1) (nI_add i 1) (show i + 1 < M1.2.2 71 0 0 by omega) ?_
          refine ab_Call_K (fun r2 M2 q => ?_) hc
          obtain ⟨⟨v, e1, e2⟩, hR2, s2⟩ := q
          cases e1
        · refine ix_i (i + 1) (nI_add i 1) (show i + 1 < M1.2.2 71 0 0 by omega) ?_
          refine ab_Call_K (fun r2 M2 q => ?_) hc
          obtain ⟨⟨v, e1, e2⟩, hR2, s2⟩ := q
          cases e1
          cases e2
          exact And.intro (fun _ => nxt M2 hR2 (s2.1.trans hL1)) (fun z => absurd rfl z)
        · refine ix_i (i + 1) (nI_add i 1) (show i + 1 < M1.2.2 71 0 0 by omega) ?_
          refine ab_Call_K (fun r2 M2 q => ?_) hc
          obtain ⟨⟨v, e1, e2⟩, hR2, s2⟩ := q
          cases e1
        · refine ix_i (i + 1) (nI_add i 1) (show i + 1 < M1.2.2 71 0 0 by omega) ?_
          refine ab_Call_K (fun r2 M2 q => ?_) hc
          obtain ⟨⟨v, e1, e2⟩, hR2, s2⟩ := q
          cases e1
      · refine ix_i (i + 1) (nI_add i 1) (show i + 1 < M.2.2 71 0 0 by omega) ?_
        refine lb_I (op_on (d := 37) hR) (fun r1 M1 s1 hc => ?_)
        rw [← s1.2 (i + 1) (by omega)] at hc
        have hL1 : M1.2.2 71 0 0 = M.2.2 71 0 0 := s1.1
        rcases r1 with _ | (y | y | y | y)
        · refine ix_i (i + 1) (nI_add i 1) (show i + 1 < M1.2.2 71 0 0 by omega) ?_
          refine ab_Call_K (fun r2 M2 q => ?_) hc
          obtain ⟨⟨v, e1, e2⟩, hR2, s2⟩ := q
          cases e1
        · refine ix_i (i + 1) (nI_add i 1) (show i + 1 < M1.2.2 71 0 0 by omega) ?_
          refine ab_Call_K (fun r2 M2 q => ?_) hc
          obtain ⟨⟨v, e1, e2⟩, hR2, s2⟩ := q
          cases e1
        · refine ix_i (i + 1) (nI_add i 1) (show i + 1 < M1.2.2 71 0 0 by omega) ?_
          refine ab_Call_K (fun r2 M2 q => ?_) hc
          obtain ⟨⟨v, e1, e2⟩, hR2, s2⟩ := q
          cases e1
          cases e2
          exact And.intro (fun _ => nxt M2 hR2 (s2.1.trans hL1)) (fun z => absurd rfl z)
        · refine ix_i (i + 1) (nI_add i 1) (show i + 1 < M1.2.2 71 0 0 by omega) ?_
          refine ab_Call_K (fun r2 M2 q => ?_) hc
          obtain ⟨⟨v, e1, e2⟩, hR2, s2⟩ := q
          cases e1
        · refine ix_i (i + 1) (nI_add i 1) (show i + 1 < M1.2.2 71 0 0 by omega) ?_
          refine ab_Call_K (fun r2 M2 q => ?_) hc
          obtain ⟨⟨v, e1, e2⟩, hR2, s2⟩ := q
          cases e1
      · refine ix_i (i + 1) (nI_add i 1) (show i + 1 < M.2.2 71 0 0 by omega) ?_
        refine lb_I (op_hares (d := 36) hR) (fun r1 M1 s1 hc => ?_)
        rw [← s1.2 (i + 1) (by omega)] at hc
        have hL1 : M1.2.2 71 0 0 = M.2.2 71 0 0 := s1.1
        rcases r1 with _ | (y | y | y | y)
        · refine ix_i (i + 1) (nI_add i 1) (show i + 1 < M1.2.2 71 0 0 by omega) ?_
          refine ab_Call_K (fun r2 M2 q => ?_) hc
          obtain ⟨⟨v, e1, e2⟩, hR2, s2⟩ := q
          cases e1
        · refine ix_i (i + 1) (nI_add i 1) (show i + 1 < M1.2.2 71 0 0 by omega) ?_
          refine ab_Call_K (fun r2 M2 q => ?_) hc
          obtain ⟨⟨v, e1, e2⟩, hR2, s2⟩ := q
          cases e1
        · refine ix_i (i + 1) (nI_add i 1) (show i + 1 < M1.2.2 71 0 0 by omega) ?_
          refine ab_Call_K (fun r2 M2 q => ?_) hc
          obtain ⟨⟨v, e1, e2⟩, hR2, s2⟩ := q
          cases e1
          cases e2
          exact And.intro (fun _ => nxt M2 hR2 (s2.1.trans hL1)) (fun z => absurd rfl z)
        · refine ix_i (i + 1) (nI_add i 1) (show i + 1 < M1.2.2 71 0 0 by omega) ?_
          refine ab_Call_K (fun r2 M2 q => ?_) hc
          obtain ⟨⟨v, e1, e2⟩, hR2, s2⟩ := q
          cases e1
        · refine ix_i (i + 1) (nI_add i 1) (show i + 1 < M1.2.2 71 0 0 by omega) ?_
          refine ab_Call_K (fun r2 M2 q => ?_) hc
          obtain ⟨⟨v, e1, e2⟩, hR2, s2⟩ := q
          cases e1
      · refine ix_i (i + 1) (nI_add i 1) (show i + 1 < M.2.2 71 0 0 by omega) ?_
        refine ix_i (i + 2) (nI_add i 2) (show i + 2 < M.2.2 71 0 0 by omega) ?_
        refine lb_I (op_comes (d := 34) hR) (fun r1 M1 s1 hc => ?_)
        rw [← s1.2 (i + 1) (by omega), ← s1.2 (i + 2) (by omega)] at hc
        have hL1 : M1.2.2 71 0 0 = M.2.2 71 0 0 := s1.1
        rcases r1 with _ | (y | y | y | y)
        · refine ix_i (i + 1) (nI_add i 1) (show i + 1 < M1.2.2 71 0 0 by omega) ?_
          refine ix_i (i + 2) (nI_add i 2) (show i + 2 < M1.2.2 71 0 0 by omega) ?_
          refine ab_Call_K (fun r2 M2 q => ?_) hc
          obtain ⟨⟨v, e1, e2⟩, hR2, s2⟩ := q
          cases e1
        · refine ix_i (i + 1) (nI_add i 1) (show i + 1 < M1.2.2 71 0 0 by omega) ?_
          refine ix_i (i + 2) (nI_add i 2) (show i + 2 < M1.2.2 71 0 0 by omega) ?_
          refine ab_Call_K (fun r2 M2 q => ?_) hc
          obtain ⟨⟨v, e1, e2⟩, hR2, s2⟩ := q
          cases e1
        · refine ix_i (i + 1) (nI_add i 1) (show i + 1 < M1.2.2 71 0 0 by omega) ?_
          refine ix_i (i + 2) (nI_add i 2) (show i + 2 < M1.2.2 71 0 0 by omega) ?_
          refine ab_Call_K (fun r2 M2 q => ?_) hc
          obtain ⟨⟨v, e1, e2⟩, hR2, s2⟩ := q
          cases e1
          cases e2
          exact And.intro (fun _ => nxt M2 hR2 (s2.1.trans hL1)) (fun z => absurd rfl z)
        · refine ix_i (i + 1) (nI_add i 1) (show i + 1 < M1.2.2 71 0 0 by omega) ?_
          refine ix_i (i + 2) (nI_add i 2) (show i + 2 < M1.2.2 71 0 0 by omega) ?_
          refine ab_Call_K (fun r2 M2 q => ?_) hc
          obtain ⟨⟨v, e1, e2⟩, hR2, s2⟩ := q
          cases e1
        · refine ix_i (i + 1) (nI_add i 1) (show i + 1 < M1.2.2 71 0 0 by omega) ?_
          refine ix_i (i + 2) (nI_add i 2) (show i + 2 < M1.2.2 71 0 0 by omega) ?_
          refine ab_Call_K (fun r2 M2 q => ?_) hc
          obtain ⟨⟨v, e1, e2⟩, hR2, s2⟩ := q
          cases e1
      · refine ix_i (i + 1) (nI_add i 1) (show i + 1 < M.2.2 71 0 0 by omega) ?_
        refine ix_i (i + 2) (nI_add i 2) (show i + 2 < M.2.2 71 0 0 by omega) ?_
        refine lb_I (op_pack (d := 35) hR) (fun r1 M1 s1 hc => ?_)
        rw [← s1.2 (i + 1) (by omega), ← s1.2 (i + 2) (by omega)] at hc
        have hL1 : M1.2.2 71 0 0 = M.2.2 71 0 0 := s1.1
        rcases r1 with _ | (y | y | y | y)
        · refine ix_i (i + 1) (nI_add i 1) (show i + 1 < M1.2.2 71 0 0 by omega) ?_
          refine ix_i (i + 2) (nI_add i 2) (show i + 2 < M1.2.2 71 0 0 by omega) ?_
          refine ab_Call_K (fun r2 M2 q => ?_) hc
          obtain ⟨⟨v, e1, e2⟩, hR2, s2⟩ := q
          cases e1
        · refine ix_i (i + 1) (nI_add i 1) (show i + 1 < M1.2.2 71 0 0 by omega) ?_
          refine ix_i (i + 2) (nI_add i 2) (show i + 2 < M1.2.2 71 0 0 by omega) ?_
          refine ab_Call_K (fun r2 M2 q => ?_) hc
          obtain ⟨⟨v, e1, e2⟩, hR2, s2⟩ := q
          cases e1
        · refine ix_i (i + 1) (nI_add i 1) (show i + 1 < M1.2.2 71 0 0 by omega) ?_
          refine ix_i (i + 2) (nI_add i 2) (show i + 2 < M1.2.2 71 0 0 by omega) ?_
          refine ab_Call_K (fun r2 M2 q => ?_) hc
          obtain ⟨⟨v, e1, e2⟩, hR2, s2⟩ := q
          cases e1
          cases e2
          exact And.intro (fun _ => nxt M2 hR2 (s2.1.trans hL1)) (fun z => absurd rfl z)
        · refine ix_i (i + 1) (nI_add i 1) (show i + 1 < M1.2.2 71 0 0 by omega) ?_
          refine ix_i (i + 2) (nI_add i 2) (show i + 2 < M1.2.2 71 0 0 by omega) ?_
          refine ab_Call_K (fun r2 M2 q => ?_) hc
          obtain ⟨⟨v, e1, e2⟩, hR2, s2⟩ := q
          cases e1
        · refine ix_i (i + 1) (nI_add i 1) (show i + 1 < M1.2.2 71 0 0 by omega) ?_
          refine ix_i (i + 2) (nI_add i 2) (show i + 2 < M1.2.2 71 0 0 by omega) ?_
          refine ab_Call_K (fun r2 M2 q => ?_) hc
          obtain ⟨⟨v, e1, e2⟩, hR2, s2⟩ := q
          cases e1
      · refine lb_I (op_caught (d := 34) hR) (fun r1 M1 s1 hc => ?_)
        have hL1 : M1.2.2 71 0 0 = M.2.2 71 0 0 := s1.1
        rcases r1 with _ | (y | y | y | y)
        · refine ab_Call_K (fun r2 M2 q => ?_) hc
          obtain ⟨⟨v, e1, e2⟩, hR2, s2⟩ := q
          cases e1
        · refine ab_Call_K (fun r2 M2 q => ?_) hc
          obtain ⟨⟨v, e1, e2⟩, hR2, s2⟩ := q
          cases e1
        · refine ab_Call_K (fun r2 M2 q => ?_) hc
          obtain ⟨⟨v, e1, e2⟩, hR2, s2⟩ := q
          cases e1
          cases e2
          exact And.intro (fun _ => nxt M2 hR2 (s2.1.trans hL1)) (fun z => absurd rfl z)
        · refine ab_Call_K (fun r2 M2 q => ?_) hc
          obtain ⟨⟨v, e1, e2⟩, hR2, s2⟩ := q
          cases e1
        · refine ab_Call_K (fun r2 M2 q => ?_) hc
          obtain ⟨⟨v, e1, e2⟩, hR2, s2⟩ := q
          cases e1
      · refine lb_I (op_ahead (d := 34) hR) (fun r1 M1 s1 hc => ?_)
        have hL1 : M1.2.2 71 0 0 = M.2.2 71 0 0 := s1.1
        rcases r1 with _ | (y | y | y | y)
        · refine ab_Call_K (fun r2 M2 q => ?_) hc
          obtain ⟨⟨v, e1, e2⟩, hR2, s2⟩ := q
          cases e1
        · refine ab_Call_K (fun r2 M2 q => ?_) hc
          obtain ⟨⟨v, e1, e2⟩, hR2, s2⟩ := q
          cases e1
        · refine ab_Call_K (fun r2 M2 q => ?_) hc
          obtain ⟨⟨v, e1, e2⟩, hR2, s2⟩ := q
          cases e1
          cases e2
          exact And.intro (fun _ => nxt M2 hR2 (s2.1.trans hL1)) (fun z => absurd rfl z)
        · refine ab_Call_K (fun r2 M2 q => ?_) hc
          obtain ⟨⟨v, e1, e2⟩, hR2, s2⟩ := q
          cases e1
        · refine ab_Call_K (fun r2 M2 q => ?_) hc
          obtain ⟨⟨v, e1, e2⟩, hR2, s2⟩ := q
          cases e1
      · refine ix_i (i + 1) (nI_add i 1) (show i + 1 < M.2.2 71 0 0 by omega) ?_
        refine lb_I (op_call (d := 35) hR) (fun r1 M1 s1 hc => ?_)
        rw [← s1.2 (i + 1) (by omega)] at hc
        have hL1 : M1.2.2 71 0 0 = M.2.2 71 0 0 := s1.1
        rcases r1 with _ | (y | y | y | y)
        · refine ix_i (i + 1) (nI_add i 1) (show i + 1 < M1.2.2 71 0 0 by omega) ?_
          refine ab_Call_K (fun r2 M2 q => ?_) hc
          obtain ⟨⟨v, e1, e2⟩, hR2, s2⟩ := q
          cases e1
        · refine ix_i (i + 1) (nI_add i 1) (show i + 1 < M1.2.2 71 0 0 by omega) ?_
          refine ab_Call_K (fun r2 M2 q => ?_) hc
          obtain ⟨⟨v, e1, e2⟩, hR2, s2⟩ := q
          cases e1
        · refine ix_i (i + 1) (nI_add i 1) (show i + 1 < M1.2.2 71 0 0 by omega) ?_
          refine ab_Call_K (fun r2 M2 q => ?_) hc
          obtain ⟨⟨v, e1, e2⟩, hR2, s2⟩ := q
          cases e1
          cases e2
          exact And.intro (fun _ => nxt M2 hR2 (s2.1.trans hL1)) (fun z => absurd rfl z)
        · refine ix_i (i + 1) (nI_add i 1) (show i + 1 < M1.2.2 71 0 0 by omega) ?_
          refine ab_Call_K (fun r2 M2 q => ?_) hc
          obtain ⟨⟨v, e1, e2⟩, hR2, s2⟩ := q
          cases e1
        · refine ix_i (i + 1) (nI_add i 1) (show i + 1 < M1.2.2 71 0 0 by omega) ?_
          refine ab_Call_K (fun r2 M2 q => ?_) hc
          obtain ⟨⟨v, e1, e2⟩, hR2, s2⟩ := q
          cases e1
      · refine lb_I (op_best (d := 35) hR) (fun r1 M1 s1 hc => ?_)
        have hL1 : M1.2.2 71 0 0 = M.2.2 71 0 0 := s1.1
        rcases r1 with _ | (y | y | y | y)
        · refine ab_Call_K (fun r2 M2 q => ?_) hc
          obtain ⟨⟨v, e1, e2⟩, hR2, s2⟩ := q
          cases e1
        · refine ab_Call_K (fun r2 M2 q => ?_) hc
          obtain ⟨⟨v, e1, e2⟩, hR2, s2⟩ := q
          cases e1
        · refine ab_Call_K (fun r2 M2 q => ?_) hc
          obtain ⟨⟨v, e1, e2⟩, hR2, s2⟩ := q
          cases e1
          cases e2
          exact And.intro (fun _ => nxt M2 hR2 (s2.1.trans hL1)) (fun z => absurd rfl z)
        · refine ab_Call_K (fun r2 M2 q => ?_) hc
          obtain ⟨⟨v, e1, e2⟩, hR2, s2⟩ := q
          cases e1
        · refine ab_Call_K (fun r2 M2 q => ?_) hc
          obtain ⟨⟨v, e1, e2⟩, hR2, s2⟩ := q
          cases e1
      · refine ix_i (i + 1) (nI_add i 1) (show i + 1 < M.2.2 71 0 0 by omega) ?_
        refine lb_I (op_fewest (d := 31) hR) (fun r1 M1 s1 hc => ?_)
        rw [← s1.2 (i + 1) (by omega)] at hc
        have hL1 : M1.2.2 71 0 0 = M.2.2 71 0 0 := s1.1
        rcases r1 with _ | (y | y | y | y)
        · refine ix_i (i + 1) (nI_add i 1) (show i + 1 < M1.2.2 71 0 0 by omega) ?_
          refine ab_Call_K (fun r2 M2 q => ?_) hc
          obtain ⟨⟨v, e1, e2⟩, hR2, s2⟩ := q
          cases e1
        · refine ix_i (i + 1) (nI_add i 1) (show i + 1 < M1.2.2 71 0 0 by omega) ?_
          refine ab_Call_K (fun r2 M2 q => ?_) hc
          obtain ⟨⟨v, e1, e2⟩, hR2, s2⟩ := q
          cases e1
        · refine ix_i (i + 1) (nI_add i 1) (show i + 1 < M1.2.2 71 0 0 by omega) ?_
          refine ab_Call_K (fun r2 M2 q => ?_) hc
          obtain ⟨⟨v, e1, e2⟩, hR2, s2⟩ := q
          cases e1
          cases e2
          exact And.intro (fun _ => nxt M2 hR2 (s2.1.trans hL1)) (fun z => absurd rfl z)
        · refine ix_i (i + 1) (nI_add i 1) (show i + 1 < M1.2.2 71 0 0 by omega) ?_
          refine ab_Call_K (fun r2 M2 q => ?_) hc
          obtain ⟨⟨v, e1, e2⟩, hR2, s2⟩ := q
          cases e1
        · refine ix_i (i + 1) (nI_add i 1) (show i + 1 < M1.2.2 71 0 0 by omega) ?_
          refine ab_Call_K (fun r2 M2 q => ?_) hc
          obtain ⟨⟨v, e1, e2⟩, hR2, s2⟩ := q
          cases e1
      · refine lb_I (op_trails (d := 36) hR) (fun r1 M1 s1 hc => ?_)
        have hL1 : M1.2.2 71 0 0 = M.2.2 71 0 0 := s1.1
        rcases r1 with _ | (y | y | y | y)
        · refine ab_Call_K (fun r2 M2 q => ?_) hc
          obtain ⟨⟨v, e1, e2⟩, hR2, s2⟩ := q
          cases e1
        · refine ab_Call_K (fun r2 M2 q => ?_) hc
          obtain ⟨⟨v, e1, e2⟩, hR2, s2⟩ := q
          cases e1
        · refine ab_Call_K (fun r2 M2 q => ?_) hc
          obtain ⟨⟨v, e1, e2⟩, hR2, s2⟩ := q
          cases e1
          cases e2
          exact And.intro (fun _ => nxt M2 hR2 (s2.1.trans hL1)) (fun z => absurd rfl z)
        · refine ab_Call_K (fun r2 M2 q => ?_) hc
          obtain ⟨⟨v, e1, e2⟩, hR2, s2⟩ := q
          cases e1
        · refine ab_Call_K (fun r2 M2 q => ?_) hc
          obtain ⟨⟨v, e1, e2⟩, hR2, s2⟩ := q
          cases e1
      · refine ix_i (i + 1) (nI_add i 1) (show i + 1 < M.2.2 71 0 0 by omega) ?_
        refine lb_I (op_least (d := 34) hR) (fun r1 M1 s1 hc => ?_)
        rw [← s1.2 (i + 1) (by omega)] at hc
        have hL1 : M1.2.2 71 0 0 = M.2.2 71 0 0 := s1.1
        rcases r1 with _ | (y | y | y | y)
        · refine ix_i (i + 1) (nI_add i 1) (show i + 1 < M1.2.2 71 0 0 by omega) ?_
          refine ab_Call_K (fun r2 M2 q => ?_) hc
          obtain ⟨⟨v, e1, e2⟩, hR2, s2⟩ := q
          cases e1
        · refine ix_i (i + 1) (nI_add i 1) (show i + 1 < M1.2.2 71 0 0 by omega) ?_
          refine ab_Call_K (fun r2 M2 q => ?_) hc
          obtain ⟨⟨v, e1, e2⟩, hR2, s2⟩ := q
          cases e1
        · refine ix_i (i + 1) (nI_add i 1) (show i + 1 < M1.2.2 71 0 0 by omega) ?_
          refine ab_Call_K (fun r2 M2 q => ?_) hc
          obtain ⟨⟨v, e1, e2⟩, hR2, s2⟩ := q
          cases e1
          cases e2
          exact And.intro (fun _ => nxt M2 hR2 (s2.1.trans hL1)) (fun z => absurd rfl z)
        · refine ix_i (i + 1) (nI_add i 1) (show i + 1 < M1.2.2 71 0 0 by omega) ?_
          refine ab_Call_K (fun r2 M2 q => ?_) hc
          obtain ⟨⟨v, e1, e2⟩, hR2, s2⟩ := q
          cases e1
        · refine ix_i (i + 1) (nI_add i 1) (show i + 1 < M1.2.2 71 0 0 by omega) ?_
          refine ab_Call_K (fun r2 M2 q => ?_) hc
          obtain ⟨⟨v, e1, e2⟩, hR2, s2⟩ := q
          cases e1
      · refine ix_i (i + 1) (nI_add i 1) (show i + 1 < M.2.2 71 0 0 by omega) ?_
        refine lb_I (op_route (d := 34) hR) (fun r1 M1 s1 hc => ?_)
        rw [← s1.2 (i + 1) (by omega)] at hc
        have hL1 : M1.2.2 71 0 0 = M.2.2 71 0 0 := s1.1
        rcases r1 with _ | (y | y | y | y)
        · refine ix_i (i + 1) (nI_add i 1) (show i + 1 < M1.2.2 71 0 0 by omega) ?_
          refine ab_Call_K (fun r2 M2 q => ?_) hc
          obtain ⟨⟨v, e1, e2⟩, hR2, s2⟩ := q
          cases e1
        · refine ix_i (i + 1) (nI_add i 1) (show i + 1 < M1.2.2 71 0 0 by omega) ?_
          refine ab_Call_K (fun r2 M2 q => ?_) hc
          obtain ⟨⟨v, e1, e2⟩, hR2, s2⟩ := q
          cases e1
        · refine ix_i (i + 1) (nI_add i 1) (show i + 1 < M1.2.2 71 0 0 by omega) ?_
          refine ab_Call_K (fun r2 M2 q => ?_) hc
          obtain ⟨⟨v, e1, e2⟩, hR2, s2⟩ := q
          cases e1
          cases e2
          exact And.intro (fun _ => nxt M2 hR2 (s2.1.trans hL1)) (fun z => absurd rfl z)
        · refine ix_i (i + 1) (nI_add i 1) (show i + 1 < M1.2.2 71 0 0 by omega) ?_
          refine ab_Call_K (fun r2 M2 q => ?_) hc
          obtain ⟨⟨v, e1, e2⟩, hR2, s2⟩ := q
          cases e1
        · refine ix_i (i + 1) (nI_add i 1) (show i + 1 < M1.2.2 71 0 0 by omega) ?_
          refine ab_Call_K (fun r2 M2 q => ?_) hc
          obtain ⟨⟨v, e1, e2⟩, hR2, s2⟩ := q
          cases e1
      · refine ix_i (i + 1) (nI_add i 1) (show i + 1 < M.2.2 71 0 0 by omega) ?_
        refine ix_i (i + 2) (nI_add i 2) (show i + 2 < M.2.2 71 0 0 by omega) ?_
        refine ix_i (i + 3) (nI_add i 3) (show i + 3 < M.2.2 71 0 0 by omega) ?_
        refine lb_I (op_across (d := 35) hR) (fun r1 M1 s1 hc => ?_)
        rw [← s1.2 (i + 1) (by omega), ← s1.2 (i + 2) (by omega), ← s1.2 (i + 3) (by omega)] at hc
        have hL1 : M1.2.2 71 0 0 = M.2.2 71 0 0 := s1.1
        rcases r1 with _ | (y | y | y | y)
        · refine ix_i (i + 1) (nI_add i 1) (show i + 1 < M1.2.2 71 0 0 by omega) ?_
          refine ix_i (i + 2) (nI_add i 2) (show i + 2 < M1.2.2 71 0 0 by omega) ?_
          refine ix_i (i + 3) (nI_add i 3) (show i + 3 < M1.2.2 71 0 0 by omega) ?_
          refine ab_Call_K (fun r2 M2 q => ?_) hc
          obtain ⟨⟨v, e1, e2⟩, hR2, s2⟩ := q
          cases e1
        · refine ix_i (i + 1) (nI_add i 1) (show i + 1 < M1.2.2 71 0 0 by omega) ?_
          refine ix_i (i + 2) (nI_add i 2) (show i + 2 < M1.2.2 71 0 0 by omega) ?_
          refine ix_i (i + 3) (nI_add i 3) (show i + 3 < M1.2.2 71 0 0 by omega) ?_
          refine ab_Call_K (fun r2 M2 q => ?_) hc
          obtain ⟨⟨v, e1, e2⟩, hR2, s2⟩ := q
          cases e1
        · refine ix_i (i + 1) (nI_add i 1) (show i + 1 < M1.2.2 71 0 0 by omega) ?_
          refine ix_i (i + 2) (nI_add i 2) (show i + 2 < M1.2.2 71 0 0 by omega) ?_
          refine ix_i (i + 3) (nI_add i 3) (show i + 3 < M1.2.2 71 0 0 by omega) ?_
          refine ab_Call_K (fun r2 M2 q => ?_) hc
          obtain ⟨⟨v, e1, e2⟩, hR2, s2⟩ := q
          cases e1
          cases e2
          exact And.intro (fun _ => nxt M2 hR2 (s2.1.trans hL1)) (fun z => absurd rfl z)
        · refine ix_i (i + 1) (nI_add i 1) (show i + 1 < M1.2.2 71 0 0 by omega) ?_
          refine ix_i (i + 2) (nI_add i 2) (show i + 2 < M1.2.2 71 0 0 by omega) ?_
          refine ix_i (i + 3) (nI_add i 3) (show i + 3 < M1.2.2 71 0 0 by omega) ?_
          refine ab_Call_K (fun r2 M2 q => ?_) hc
          obtain ⟨⟨v, e1, e2⟩, hR2, s2⟩ := q
          cases e1
        · refine ix_i (i + 1) (nI_add i 1) (show i + 1 < M1.2.2 71 0 0 by omega) ?_
          refine ix_i (i + 2) (nI_add i 2) (show i + 2 < M1.2.2 71 0 0 by omega) ?_
          refine ix_i (i + 3) (nI_add i 3) (show i + 3 < M1.2.2 71 0 0 by omega) ?_
          refine ab_Call_K (fun r2 M2 q => ?_) hc
          obtain ⟨⟨v, e1, e2⟩, hR2, s2⟩ := q
          cases e1
      · refine ix_i (i + 1) (nI_add i 1) (show i + 1 < M.2.2 71 0 0 by omega) ?_
        refine ix_i (i + 2) (nI_add i 2) (show i + 2 < M.2.2 71 0 0 by omega) ?_
        refine lb_I (op_parted (d := 37) hR) (fun r1 M1 s1 hc => ?_)
        rw [← s1.2 (i + 1) (by omega), ← s1.2 (i + 2) (by omega)] at hc
        have hL1 : M1.2.2 71 0 0 = M.2.2 71 0 0 := s1.1
        rcases r1 with _ | (y | y | y | y)
        · refine ix_i (i + 1) (nI_add i 1) (show i + 1 < M1.2.2 71 0 0 by omega) ?_
          refine ix_i (i + 2) (nI_add i 2) (show i + 2 < M1.2.2 71 0 0 by omega) ?_
          refine ab_Call_K (fun r2 M2 q => ?_) hc
          obtain ⟨⟨v, e1, e2⟩, hR2, s2⟩ := q
          cases e1
        · refine ix_i (i + 1) (nI_add i 1) (show i + 1 < M1.2.2 71 0 0 by omega) ?_
          refine ix_i (i + 2) (nI_add i 2) (show i + 2 < M1.2.2 71 0 0 by omega) ?_
          refine ab_Call_K (fun r2 M2 q => ?_) hc
          obtain ⟨⟨v, e1, e2⟩, hR2, s2⟩ := q
          cases e1
        · refine ix_i (i + 1) (nI_add i 1) (show i + 1 < M1.2.2 71 0 0 by omega) ?_
          refine ix_i (i + 2) (nI_add i 2) (show i + 2 < M1.2.2 71 0 0 by omega) ?_
          refine ab_Call_K (fun r2 M2 q => ?_) hc
          obtain ⟨⟨v, e1, e2⟩, hR2, s2⟩ := q
          cases e1
          cases e2
          exact And.intro (fun _ => nxt M2 hR2 (s2.1.trans hL1)) (fun z => absurd rfl z)
        · refine ix_i (i + 1) (nI_add i 1) (show i + 1 < M1.2.2 71 0 0 by omega) ?_
          refine ix_i (i + 2) (nI_add i 2) (show i + 2 < M1.2.2 71 0 0 by omega) ?_
          refine ab_Call_K (fun r2 M2 q => ?_) hc
          obtain ⟨⟨v, e1, e2⟩, hR2, s2⟩ := q
          cases e1
        · refine ix_i (i + 1) (nI_add i 1) (show i + 1 < M1.2.2 71 0 0 by omega) ?_
          refine ix_i (i + 2) (nI_add i 2) (show i + 2 < M1.2.2 71 0 0 by omega) ?_
          refine ab_Call_K (fun r2 M2 q => ?_) hc
          obtain ⟨⟨v, e1, e2⟩, hR2, s2⟩ := q
          cases e1
      · refine ix_i (i + 1) (nI_add i 1) (show i + 1 < M.2.2 71 0 0 by omega) ?_
        refine ix_i (i + 2) (nI_add i 2) (show i + 2 < M.2.2 71 0 0 by omega) ?_
        refine lb_I (op_chance (d := 35) hR) (fun r1 M1 s1 hc => ?_)
        rw [← s1.2 (i + 1) (by omega), ← s1.2 (i + 2) (by omega)] at hc
        have hL1 : M1.2.2 71 0 0 = M.2.2 71 0 0 := s1.1
        rcases r1 with _ | (y | y | y | y)
        · refine ix_i (i + 1) (nI_add i 1) (show i + 1 < M1.2.2 71 0 0 by omega) ?_
          refine ix_i (i + 2) (nI_add i 2) (show i + 2 < M1.2.2 71 0 0 by omega) ?_
          refine ab_Call_K (fun r2 M2 q => ?_) hc
          obtain ⟨⟨v, e1, e2⟩, hR2, s2⟩ := q
          cases e1
        · refine ix_i (i + 1) (nI_add i 1) (show i + 1 < M1.2.2 71 0 0 by omega) ?_
          refine ix_i (i + 2) (nI_add i 2) (show i + 2 < M1.2.2 71 0 0 by omega) ?_
          refine ab_Call_K (fun r2 M2 q => ?_) hc
          obtain ⟨⟨v, e1, e2⟩, hR2, s2⟩ := q
          cases e1
        · refine ix_i (i + 1) (nI_add i 1) (show i + 1 < M1.2.2 71 0 0 by omega) ?_
          refine ix_i (i + 2) (nI_add i 2) (show i + 2 < M1.2.2 71 0 0 by omega) ?_
          refine ab_Call_K (fun r2 M2 q => ?_) hc
          obtain ⟨⟨v, e1, e2⟩, hR2, s2⟩ := q
          cases e1
          cases e2
          exact And.intro (fun _ => nxt M2 hR2 (s2.1.trans hL1)) (fun z => absurd rfl z)
        · refine ix_i (i + 1) (nI_add i 1) (show i + 1 < M1.2.2 71 0 0 by omega) ?_
          refine ix_i (i + 2) (nI_add i 2) (show i + 2 < M1.2.2 71 0 0 by omega) ?_
          refine ab_Call_K (fun r2 M2 q => ?_) hc
          obtain ⟨⟨v, e1, e2⟩, hR2, s2⟩ := q
          cases e1
        · refine ix_i (i + 1) (nI_add i 1) (show i + 1 < M1.2.2 71 0 0 by omega) ?_
          refine ix_i (i + 2) (nI_add i 2) (show i + 2 < M1.2.2 71 0 0 by omega) ?_
          refine ab_Call_K (fun r2 M2 q => ?_) hc
          obtain ⟨⟨v, e1, e2⟩, hR2, s2⟩ := q
          cases e1
      · refine ix_i (i + 1) (nI_add i 1) (show i + 1 < M.2.2 71 0 0 by omega) ?_
        refine lb_I (op_mid (d := 35) hR) (fun r1 M1 s1 hc => ?_)
        rw [← s1.2 (i + 1) (by omega)] at hc
        have hL1 : M1.2.2 71 0 0 = M.2.2 71 0 0 := s1.1
        rcases r1 with _ | (y | y | y | y)
        · refine ix_i (i + 1) (nI_add i 1) (show i + 1 < M1.2.2 71 0 0 by omega) ?_
          refine ab_Call_K (fun r2 M2 q => ?_) hc
          obtain ⟨⟨v, e1, e2⟩, hR2, s2⟩ := q
          cases e1
        · refine ix_i (i + 1) (nI_add i 1) (show i + 1 < M1.2.2 71 0 0 by omega) ?_
          refine ab_Call_K (fun r2 M2 q => ?_) hc
          obtain ⟨⟨v, e1, e2⟩, hR2, s2⟩ := q
          cases e1
        · refine ix_i (i + 1) (nI_add i 1) (show i + 1 < M1.2.2 71 0 0 by omega) ?_
          refine ab_Call_K (fun r2 M2 q => ?_) hc
          obtain ⟨⟨v, e1, e2⟩, hR2, s2⟩ := q
          cases e1
          cases e2
          exact And.intro (fun _ => nxt M2 hR2 (s2.1.trans hL1)) (fun z => absurd rfl z)
        · refine ix_i (i + 1) (nI_add i 1) (show i + 1 < M1.2.2 71 0 0 by omega) ?_
          refine ab_Call_K (fun r2 M2 q => ?_) hc
          obtain ⟨⟨v, e1, e2⟩, hR2, s2⟩ := q
          cases e1
        · refine ix_i (i + 1) (nI_add i 1) (show i + 1 < M1.2.2 71 0 0 by omega) ?_
          refine ab_Call_K (fun r2 M2 q => ?_) hc
          obtain ⟨⟨v, e1, e2⟩, hR2, s2⟩ := q
          cases e1
      · refine ix_i (i + 1) (nI_add i 1) (show i + 1 < M.2.2 71 0 0 by omega) ?_
        refine lb_I (op_run (d := 35) hR) (fun r1 M1 s1 hc => ?_)
        rw [← s1.2 (i + 1) (by omega)] at hc
        have hL1 : M1.2.2 71 0 0 = M.2.2 71 0 0 := s1.1
        rcases r1 with _ | (y | y | y | y)
        · refine ix_i (i + 1) (nI_add i 1) (show i + 1 < M1.2.2 71 0 0 by omega) ?_
          refine ab_Call_K (fun r2 M2 q => ?_) hc
          obtain ⟨⟨v, e1, e2⟩, hR2, s2⟩ := q
          cases e1
        · refine ix_i (i + 1) (nI_add i 1) (show i + 1 < M1.2.2 71 0 0 by omega) ?_
          refine ab_Call_K (fun r2 M2 q => ?_) hc
          obtain ⟨⟨v, e1, e2⟩, hR2, s2⟩ := q
          cases e1
        · refine ix_i (i + 1) (nI_add i 1) (show i + 1 < M1.2.2 71 0 0 by omega) ?_
          refine ab_Call_K (fun r2 M2 q => ?_) hc
          obtain ⟨⟨v, e1, e2⟩, hR2, s2⟩ := q
          cases e1
          cases e2
          exact And.intro (fun _ => nxt M2 hR2 (s2.1.trans hL1)) (fun z => absurd rfl z)
        · refine ix_i (i + 1) (nI_add i 1) (show i + 1 < M1.2.2 71 0 0 by omega) ?_
          refine ab_Call_K (fun r2 M2 q => ?_) hc
          obtain ⟨⟨v, e1, e2⟩, hR2, s2⟩ := q
          cases e1
        · refine ix_i (i + 1) (nI_add i 1) (show i + 1 < M1.2.2 71 0 0 by omega) ?_
          refine ab_Call_K (fun r2 M2 q => ?_) hc
          obtain ⟨⟨v, e1, e2⟩, hR2, s2⟩ := q
          cases e1
      · refine ix_i (i + 1) (nI_add i 1) (show i + 1 < M.2.2 71 0 0 by omega) ?_
        refine lb_I (op_kinds (d := 35) hR) (fun r1 M1 s1 hc => ?_)
        rw [← s1.2 (i + 1) (by omega)] at hc
        have hL1 : M1.2.2 71 0 0 = M.2.2 71 0 0 := s1.1
        rcases r1 with _ | (y | y | y | y)
        · refine ix_i (i + 1) (nI_add i 1) (show i + 1 < M1.2.2 71 0 0 by omega) ?_
          refine ab_Call_K (fun r2 M2 q => ?_) hc
          obtain ⟨⟨v, e1, e2⟩, hR2, s2⟩ := q
          cases e1
        · refine ix_i (i + 1) (nI_add i 1) (show i + 1 < M1.2.2 71 0 0 by omega) ?_
          refine ab_Call_K (fun r2 M2 q => ?_) hc
          obtain ⟨⟨v, e1, e2⟩, hR2, s2⟩ := q
          cases e1
        · refine ix_i (i + 1) (nI_add i 1) (show i + 1 < M1.2.2 71 0 0 by omega) ?_
          refine ab_Call_K (fun r2 M2 q => ?_) hc
          obtain ⟨⟨v, e1, e2⟩, hR2, s2⟩ := q
          cases e1
          cases e2
          exact And.intro (fun _ => nxt M2 hR2 (s2.1.trans hL1)) (fun z => absurd rfl z)
        · refine ix_i (i + 1) (nI_add i 1) (show i + 1 < M1.2.2 71 0 0 by omega) ?_
          refine ab_Call_K (fun r2 M2 q => ?_) hc
          obtain ⟨⟨v, e1, e2⟩, hR2, s2⟩ := q
          cases e1
        · refine ix_i (i + 1) (nI_add i 1) (show i + 1 < M1.2.2 71 0 0 by omega) ?_
          refine ab_Call_K (fun r2 M2 q => ?_) hc
          obtain ⟨⟨v, e1, e2⟩, hR2, s2⟩ := q
          cases e1
      · refine ix_i (i + 1) (nI_add i 1) (show i + 1 < M.2.2 71 0 0 by omega) ?_
        refine lb_I (op_gone (d := 35) hR) (fun r1 M1 s1 hc => ?_)
        rw [← s1.2 (i + 1) (by omega)] at hc
        have hL1 : M1.2.2 71 0 0 = M.2.2 71 0 0 := s1.1
        rcases r1 with _ | (y | y | y | y)
        · refine ix_i (i + 1) (nI_add i 1) (show i + 1 < M1.2.2 71 0 0 by omega) ?_
          refine ab_Call_K (fun r2 M2 q => ?_) hc
          obtain ⟨⟨v, e1, e2⟩, hR2, s2⟩ := q
          cases e1
        · refine ix_i (i + 1) (nI_add i 1) (show i + 1 < M1.2.2 71 0 0 by omega) ?_
          refine ab_Call_K (fun r2 M2 q => ?_) hc
          obtain ⟨⟨v, e1, e2⟩, hR2, s2⟩ := q
          cases e1
        · refine ix_i (i + 1) (nI_add i 1) (show i + 1 < M1.2.2 71 0 0 by omega) ?_
          refine ab_Call_K (fun r2 M2 q => ?_) hc
          obtain ⟨⟨v, e1, e2⟩, hR2, s2⟩ := q
          cases e1
          cases e2
          exact And.intro (fun _ => nxt M2 hR2 (s2.1.trans hL1)) (fun z => absurd rfl z)
        · refine ix_i (i + 1) (nI_add i 1) (show i + 1 < M1.2.2 71 0 0 by omega) ?_
          refine ab_Call_K (fun r2 M2 q => ?_) hc
          obtain ⟨⟨v, e1, e2⟩, hR2, s2⟩ := q
          cases e1
        · refine ix_i (i + 1) (nI_add i 1) (show i + 1 < M1.2.2 71 0 0 by omega) ?_
          refine ab_Call_K (fun r2 M2 q => ?_) hc
          obtain ⟨⟨v, e1, e2⟩, hR2, s2⟩ := q
          cases e1
      · refine lb_I (op_asked (d := 40) hR) (fun r1 M1 s1 hc => ?_)
        have hL1 : M1.2.2 71 0 0 = M.2.2 71 0 0 := s1.1
        rcases r1 with _ | (y | y | y | y)
        · refine ab_Call_K (fun r2 M2 q => ?_) hc
          obtain ⟨⟨v, e1, e2⟩, hR2, s2⟩ := q
          cases e1
        · refine ab_Call_K (fun r2 M2 q => ?_) hc
          obtain ⟨⟨v, e1, e2⟩, hR2, s2⟩ := q
          cases e1
        · refine ab_Call_K (fun r2 M2 q => ?_) hc
          obtain ⟨⟨v, e1, e2⟩, hR2, s2⟩ := q
          cases e1
          cases e2
          exact And.intro (fun _ => nxt M2 hR2 (s2.1.trans hL1)) (fun z => absurd rfl z)
        · refine ab_Call_K (fun r2 M2 q => ?_) hc
          obtain ⟨⟨v, e1, e2⟩, hR2, s2⟩ := q
          cases e1
        · refine ab_Call_K (fun r2 M2 q => ?_) hc
          obtain ⟨⟨v, e1, e2⟩, hR2, s2⟩ := q
          cases e1
      · refine lb_J (op_upper (d := 40) hR) (fun r1 M1 s1 hc => ?_)
        have hL1 : M1.2.2 71 0 0 = M.2.2 71 0 0 := s1.1
        rcases r1 with _ | (y | y | y | y)
        · refine ab_Call_K (fun r2 M2 q => ?_) hc
          obtain ⟨⟨v, e1, e2⟩, hR2, s2⟩ := q
          cases e1
        · refine ab_Call_K (fun r2 M2 q => ?_) hc
          obtain ⟨⟨v, e1, e2⟩, hR2, s2⟩ := q
          cases e1
        · refine ab_Call_K (fun r2 M2 q => ?_) hc
          obtain ⟨⟨v, e1, e2⟩, hR2, s2⟩ := q
          cases e1
        · refine ab_Call_K (fun r2 M2 q => ?_) hc
          obtain ⟨⟨v, e1, e2⟩, hR2, s2⟩ := q
          cases e1
          cases e2
          exact And.intro (fun z => absurd z (fun w => by rw [Int64.lt_iff_toInt_lt] at w; omega)) (And.intro (fun _ => nxt M2 hR2 (s2.1.trans hL1)) (fun z => absurd z (fun w => by rw [Int64.lt_iff_toInt_lt] at w; omega)))
        · refine ab_Call_K (fun r2 M2 q => ?_) hc
          obtain ⟨⟨v, e1, e2⟩, hR2, s2⟩ := q
          cases e1
      · refine lb_J (op_lower (d := 40) hR) (fun r1 M1 s1 hc => ?_)
        have hL1 : M1.2.2 71 0 0 = M.2.2 71 0 0 := s1.1
        rcases r1 with _ | (y | y | y | y)
        · refine ab_Call_K (fun r2 M2 q => ?_) hc
          obtain ⟨⟨v, e1, e2⟩, hR2, s2⟩ := q
          cases e1
        · refine ab_Call_K (fun r2 M2 q => ?_) hc
          obtain ⟨⟨v, e1, e2⟩, hR2, s2⟩ := q
          cases e1
        · refine ab_Call_K (fun r2 M2 q => ?_) hc
          obtain ⟨⟨v, e1, e2⟩, hR2, s2⟩ := q
          cases e1
        · refine ab_Call_K (fun r2 M2 q => ?_) hc
          obtain ⟨⟨v, e1, e2⟩, hR2, s2⟩ := q
          cases e1
          cases e2
          exact And.intro (fun z => absurd z (fun w => by rw [Int64.lt_iff_toInt_lt] at w; omega)) (And.intro (fun _ => nxt M2 hR2 (s2.1.trans hL1)) (fun z => absurd z (fun w => by rw [Int64.lt_iff_toInt_lt] at w; omega)))
        · refine ab_Call_K (fun r2 M2 q => ?_) hc
          obtain ⟨⟨v, e1, e2⟩, hR2, s2⟩ := q
          cases e1
      · refine ix_i (i + 1) (nI_add i 1) (show i + 1 < M.2.2 71 0 0 by omega) ?_
        refine lb_I (op_count (d := 38) hR) (fun r1 M1 s1 hc => ?_)
        rw [← s1.2 (i + 1) (by omega)] at hc
        have hL1 : M1.2.2 71 0 0 = M.2.2 71 0 0 := s1.1
        rcases r1 with _ | (y | y | y | y)
        · refine ix_i (i + 1) (nI_add i 1) (show i + 1 < M1.2.2 71 0 0 by omega) ?_
          refine ab_Call_K (fun r2 M2 q => ?_) hc
          obtain ⟨⟨v, e1, e2⟩, hR2, s2⟩ := q
          cases e1
        · refine ix_i (i + 1) (nI_add i 1) (show i + 1 < M1.2.2 71 0 0 by omega) ?_
          refine ab_Call_K (fun r2 M2 q => ?_) hc
          obtain ⟨⟨v, e1, e2⟩, hR2, s2⟩ := q
          cases e1
        · refine ix_i (i + 1) (nI_add i 1) (show i + 1 < M1.2.2 71 0 0 by omega) ?_
          refine ab_Call_K (fun r2 M2 q => ?_) hc
          obtain ⟨⟨v, e1, e2⟩, hR2, s2⟩ := q
          cases e1
          cases e2
          exact And.intro (fun _ => nxt M2 hR2 (s2.1.trans hL1)) (fun z => absurd rfl z)
        · refine ix_i (i + 1) (nI_add i 1) (show i + 1 < M1.2.2 71 0 0 by omega) ?_
          refine ab_Call_K (fun r2 M2 q => ?_) hc
          obtain ⟨⟨v, e1, e2⟩, hR2, s2⟩ := q
          cases e1
        · refine ix_i (i + 1) (nI_add i 1) (show i + 1 < M1.2.2 71 0 0 by omega) ?_
          refine ab_Call_K (fun r2 M2 q => ?_) hc
          obtain ⟨⟨v, e1, e2⟩, hR2, s2⟩ := q
          cases e1
      · refine lb_I (op_finding (d := 40) hR) (fun r1 M1 s1 hc => ?_)
        have hL1 : M1.2.2 71 0 0 = M.2.2 71 0 0 := s1.1
        rcases r1 with _ | (y | y | y | y)
        · refine ab_Call_K (fun r2 M2 q => ?_) hc
          obtain ⟨⟨v, e1, e2⟩, hR2, s2⟩ := q
          cases e1
        · refine ab_Call_K (fun r2 M2 q => ?_) hc
          obtain ⟨⟨v, e1, e2⟩, hR2, s2⟩ := q
          cases e1
        · refine ab_Call_K (fun r2 M2 q => ?_) hc
          obtain ⟨⟨v, e1, e2⟩, hR2, s2⟩ := q
          cases e1
          cases e2
          exact And.intro (fun _ => nxt M2 hR2 (s2.1.trans hL1)) (fun z => absurd rfl z)
        · refine ab_Call_K (fun r2 M2 q => ?_) hc
          obtain ⟨⟨v, e1, e2⟩, hR2, s2⟩ := q
          cases e1
        · refine ab_Call_K (fun r2 M2 q => ?_) hc
          obtain ⟨⟨v, e1, e2⟩, hR2, s2⟩ := q
          cases e1
      · refine ix_i (i + 1) (nI_add i 1) (show i + 1 < M.2.2 71 0 0 by omega) ?_
        refine lb_I (op_findings (d := 39) hR) (fun r1 M1 s1 hc => ?_)
        rw [← s1.2 (i + 1) (by omega)] at hc
        have hL1 : M1.2.2 71 0 0 = M.2.2 71 0 0 := s1.1
        rcases r1 with _ | (y | y | y | y)
        · refine ix_i (i + 1) (nI_add i 1) (show i + 1 < M1.2.2 71 0 0 by omega) ?_
          refine ab_Call_K (fun r2 M2 q => ?_) hc
          obtain ⟨⟨v, e1, e2⟩, hR2, s2⟩ := q
          cases e1
        · refine ix_i (i + 1) (nI_add i 1) (show i + 1 < M1.2.2 71 0 0 by omega) ?_
          refine ab_Call_K (fun r2 M2 q => ?_) hc
          obtain ⟨⟨v, e1, e2⟩, hR2, s2⟩ := q
          cases e1
        · refine ix_i (i + 1) (nI_add i 1) (show i + 1 < M1.2.2 71 0 0 by omega) ?_
          refine ab_Call_K (fun r2 M2 q => ?_) hc
          obtain ⟨⟨v, e1, e2⟩, hR2, s2⟩ := q
          cases e1
          cases e2
          exact And.intro (fun _ => nxt M2 hR2 (s2.1.trans hL1)) (fun z => absurd rfl z)
        · refine ix_i (i + 1) (nI_add i 1) (show i + 1 < M1.2.2 71 0 0 by omega) ?_
          refine ab_Call_K (fun r2 M2 q => ?_) hc
          obtain ⟨⟨v, e1, e2⟩, hR2, s2⟩ := q
          cases e1
        · refine ix_i (i + 1) (nI_add i 1) (show i + 1 < M1.2.2 71 0 0 by omega) ?_
          refine ab_Call_K (fun r2 M2 q => ?_) hc
          obtain ⟨⟨v, e1, e2⟩, hR2, s2⟩ := q
          cases e1
      · refine lb_J (op_digest (d := 34) hR) (fun r1 M1 s1 hc => ?_)
        have hL1 : M1.2.2 71 0 0 = M.2.2 71 0 0 := s1.1
        rcases r1 with _ | (y | y | y | y)
        · refine ab_Call_K (fun r2 M2 q => ?_) hc
          obtain ⟨⟨v, e1, e2⟩, hR2, s2⟩ := q
          cases e1
        · refine ab_Call_K (fun r2 M2 q => ?_) hc
          obtain ⟨⟨v, e1, e2⟩, hR2, s2⟩ := q
          cases e1
        · refine ab_Call_K (fun r2 M2 q => ?_) hc
          obtain ⟨⟨v, e1, e2⟩, hR2, s2⟩ := q
          cases e1
        · refine ab_Call_K (fun r2 M2 q => ?_) hc
          obtain ⟨⟨v, e1, e2⟩, hR2, s2⟩ := q
          cases e1
          cases e2
          exact And.intro (fun z => absurd z (fun w => by rw [Int64.lt_iff_toInt_lt] at w; omega)) (And.intro (fun _ => nxt M2 hR2 (s2.1.trans hL1)) (fun z => absurd z (fun w => by rw [Int64.lt_iff_toInt_lt] at w; omega)))
        · refine ab_Call_K (fun r2 M2 q => ?_) hc
          obtain ⟨⟨v, e1, e2⟩, hR2, s2⟩ := q
          cases e1
