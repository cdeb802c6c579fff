/-! ===== count: the reference, the law's step ===== -/
section Count2
variable {d : Nat} {M : ab_M} {K : ab_K} {D : Nat → Nat}
theorem m_isOf_e {a b : Nat} {v : Int32} (hv : v = nI a) (ha : a ≤ 5) (hb : b ≤ 5) (h1 : (a = b ∨ b = 0 ∨ (a = 4 ∧ b = 1) ∨ (a = 5 ∧ b = 2)) → K (some (.inl 1)) M) (h0 : ¬ (a = b ∨ b = 0 ∨ (a = 4 ∧ b = 1) ∨ (a = 5 ∧ b = 2)) → K (some (.inl 0)) M) : ab_Call d 190 [vi v, vi (nI b)] M K := by
  subst hv
  exact m_isOf ha hb h1 h0
theorem m_counted {w : Nat} (hR : Rel M) (hw : wf D) (hn : nwM M 54 0 D) (hw9 : w < 10) (hK : K (some (vi (nI (cw M D w)))) M) : ab_Call (d + 1) 261 [vr 49 0, vi (nI w)] M K := by
  refine ab_Call_nr (caX10_counted rfl (atX10_counted ?_))
  have w1 : D 1 ≤ 4 := hw.1.2.1
  have V6 : w = 6 → cw M D w = sm (fun i => b1 (qk D i)) (D 1) := fun q => by subst q; rfl
  have V7 : w = 7 → cw M D w = sm (fun r => b1 (tr1 (M.1 50 0 r))) 6 := fun q => by subst q; rfl
  have V8 : w = 8 → cw M D w = sm (fun r => b1 (tr1 (M.1 52 0 r))) 4 := fun q => by subst q; rfl
  have V9 : w = 9 → cw M D w = sm (fun r => b1 (decide (M.1 56 0 r ≠ 0))) 3 := fun q => by subst q; rfl
  have L125 : ∀ j, j ≤ 3 → ∀ m, (w = 9 → m = sm (fun r => b1 (decide (M.1 56 0 r ≠ 0))) j) → (w ≠ 9 → 6 ≤ w → m = cw M D w) → ab_At miX10_counted (d + 1) 125 [some (vr 49 0), some (vi (nI w)), some (vi (nI m)), some (vi (nI j))] [] M (fun r M => K (r.map ab_nr) M) := by
    refine up_ind fun j hj ih m h9 h6 => ?_
    refine atX10_counted ?_
    have fin : ∀ P : Prop, (w ≠ 9 → P) → (w = 9 → j = 3) → True := fun _ _ _ => trivial
    have e6 : w < 6 → M.1 54 0 w = nI (cw M D w) := fun q => by rw [nw hn (by omega)]; unfold cw; rw [if_pos q]
    refine And.intro (fun h => ?_) (fun h => ?_)
    · have hj3 : 3 ≤ j := nle_use (a := 3) (b := j) h
      refine And.intro (fun q => ?_) (fun q => ?_)
      · have q : 6 ≤ w := nle_use (a := 6) (b := w) q
        have hm : m = cw M D w := by
          by_cases z : w = 9
          · rw [V9 z, h9 z, show j = 3 by omega]
          · exact h6 z q
        rw [← hm] at hK
        exact hK
      · have q : w < 6 := nlt_use (a := w) (b := 6) q
        refine ix_i w rfl (show w < 78 by omega) ?_
        rw [← e6 q] at hK
        exact hK
    · have hj3 : j < 3 := nlt_use (a := j) (b := 3) h
      refine And.intro (fun q => ?_) (fun q => ?_)
      · have q : w ≠ 9 := fun z => q (by rw [z])
        refine And.intro (fun q2 => ?_) (fun q2 => ?_)
        · have q2 : 6 ≤ w := nle_use (a := 6) (b := w) q2
          rw [← h6 q q2] at hK
          exact hK
        · have q2 : w < 6 := nlt_use (a := w) (b := 6) q2
          refine ix_i w rfl (show w < 78 by omega) ?_
          rw [← e6 q2] at hK
          exact hK
      · have q : w = 9 := neq_use (a := w) (b := 9) q
        refine ix_i j rfl hj3 ?_
        have stp : ∀ b, b = b1 (decide (M.1 56 0 j ≠ 0)) → ab_At miX10_counted (d + 1) 125 [some (vr 49 0), some (vi (nI w)), some (vi (nI m + nI b)), some (vi (nI j + nI 1))] [] M (fun r M => K (r.map ab_nr) M) := by
          intro b hb
          have := ih hj3 (m + b) (fun _ => by rw [h9 q, hb]; rfl) (fun z => absurd q z)
          rw [← nI_1 j, ← nI_add] at this
          exact this
        refine And.intro (fun q2 => ?_) (fun q2 => ?_)
        · exact stp 0 (by rw [show decide (M.1 56 0 j ≠ 0) = false from decide_eq_false (fun z => z q2)]; rfl)
        · exact stp 1 (by rw [show decide (M.1 56 0 j ≠ 0) = true from decide_eq_true q2]; rfl)
  have L89 : ∀ j, j ≤ 4 → ∀ m, (w = 8 → m = sm (fun r => b1 (tr1 (M.1 52 0 r))) j) → (w = 9 → m = 0) → (w ≠ 9 → w ≠ 8 → 6 ≤ w → m = cw M D w) → ab_At miX10_counted (d + 1) 89 [some (vr 49 0), some (vi (nI w)), some (vi (nI m)), some (vi (nI j))] [] M (fun r M => K (r.map ab_nr) M) := by
    refine up_ind fun j hj ih m h8 h9 h6 => ?_
    refine atX10_counted ?_
    have nx : (w = 8 → j = 4) → ab_At miX10_counted (d + 1) 125 [some (vr 49 0), some (vi (nI w)), some (vi (nI m)), some (vi (nI 0))] [] M (fun r M => K (r.map ab_nr) M) := fun z => L125 0 (Nat.zero_le _) m h9 (fun z1 z2 => by
      by_cases z3 : w = 8
      · rw [V8 z3, h8 z3, z z3]
      · exact h6 z1 z3 z2)
    refine And.intro (fun h => ?_) (fun h => ?_)
    · have hj3 : 4 ≤ j := nle_use (a := 4) (b := j) h
      exact nx (fun _ => by omega)
    · have hj3 : j < 4 := nlt_use (a := j) (b := 4) h
      refine And.intro (fun q => ?_) (fun q => ?_)
      · exact nx (fun z => absurd (show nI w = nI 8 by rw [z]) q)
      · have q : w = 8 := neq_use (a := w) (b := 8) q
        refine ix_i j rfl hj3 ?_
        have stp : ∀ b, b = b1 (tr1 (M.1 52 0 j)) → ab_At miX10_counted (d + 1) 89 [some (vr 49 0), some (vi (nI w)), some (vi (nI m + nI b)), some (vi (nI j + nI 1))] [] M (fun r M => K (r.map ab_nr) M) := by
          intro b hb
          have := ih hj3 (m + b) (fun _ => by rw [h8 q, hb]; rfl) (fun z => by omega) (fun _ z => absurd q z)
          rw [← nI_1 j, ← nI_add] at this
          exact this
        rcases tx_cases hR hj3 with ⟨s1, s2⟩ | ⟨n, n40, s1, s2, s3⟩
        · refine And.intro (fun q2 => absurd q2 (i_not_le (neg_m1 s2))) (fun q2 => ?_)
          exact stp 0 (by unfold tr1; simp [s2]; rfl)
        · refine And.intro (fun q2 => ?_) (fun q2 => absurd q2 (neg_no s2 (by omega)))
          exact stp 1 (by unfold tr1; rw [s2, decide_eq_true (ne_m1 (by omega))]; rfl)
  have L52 : ∀ j, j ≤ 6 → ∀ m, (w = 7 → m = sm (fun r => b1 (tr1 (M.1 50 0 r))) j) → (w = 8 ∨ w = 9 → m = 0) → (w = 6 → m = cw M D w) → ab_At miX10_counted (d + 1) 52 [some (vr 49 0), some (vi (nI w)), some (vi (nI m)), some (vi (nI j))] [] M (fun r M => K (r.map ab_nr) M) := by
    refine up_ind fun j hj ih m h7 h9 h6 => ?_
    refine atX10_counted ?_
    have nx : (w = 7 → j = 6) → ab_At miX10_counted (d + 1) 89 [some (vr 49 0), some (vi (nI w)), some (vi (nI m)), some (vi (nI 0))] [] M (fun r M => K (r.map ab_nr) M) := fun z => L89 0 (Nat.zero_le _) m (fun z1 => h9 (Or.inl z1)) (fun z1 => h9 (Or.inr z1)) (fun z1 z2 z4 => by
      by_cases z3 : w = 7
      · rw [V7 z3, h7 z3, z z3]
      · exact h6 (by omega))
    refine And.intro (fun h => ?_) (fun h => ?_)
    · have hj3 : 6 ≤ j := nle_use (a := 6) (b := j) h
      exact nx (fun _ => by omega)
    · have hj3 : j < 6 := nlt_use (a := j) (b := 6) h
      refine And.intro (fun q => ?_) (fun q => ?_)
      · exact nx (fun z => absurd (show nI w = nI 7 by rw [z]) q)
      · have q : w = 7 := neq_use (a := w) (b := 7) q
        refine ix_i j rfl hj3 ?_
        have stp : ∀ b, b = b1 (tr1 (M.1 50 0 j)) → ab_At miX10_counted (d + 1) 52 [some (vr 49 0), some (vi (nI w)), some (vi (nI m + nI b)), some (vi (nI j + nI 1))] [] M (fun r M => K (r.map ab_nr) M) := by
          intro b hb
          have := ih hj3 (m + b) (fun _ => by rw [h7 q, hb]; rfl) (fun z => by omega) (fun z => by omega)
          rw [← nI_1 j, ← nI_add] at this
          exact this
        rcases rw_cases hR hj3 with ⟨s1, s2⟩ | ⟨n, n40, s1, s2, s3⟩
        · refine And.intro (fun q2 => absurd q2 (i_not_le (neg_m1 s2))) (fun q2 => ?_)
          exact stp 0 (by unfold tr1; simp [s2]; rfl)
        · refine And.intro (fun q2 => ?_) (fun q2 => absurd q2 (neg_no s2 (by omega)))
          exact stp 1 (by unfold tr1; rw [s2, decide_eq_true (ne_m1 (by omega))]; rfl)
  have L4 : ∀ j, j ≤ D 1 → ∀ m, (w = 6 → m = sm (fun i => b1 (qk D i)) j) → (w ≠ 6 → m = 0) → ab_At miX10_counted (d + 1) 4 [some (vr 49 0), some (vi (nI w)), some (vi (nI m)), some (vi (nI j))] [] M (fun r M => K (r.map ab_nr) M) := by
    refine up_ind fun j hj ih m h6 h0 => ?_
    refine atX10_counted ?_
    have nx : (w = 6 → j = D 1) → ab_At miX10_counted (d + 1) 52 [some (vr 49 0), some (vi (nI w)), some (vi (nI m)), some (vi (nI 0))] [] M (fun r M => K (r.map ab_nr) M) := fun z => L52 0 (Nat.zero_le _) m (fun z1 => h0 (by omega)) (fun z1 => h0 (by omega)) (fun z1 => by rw [V6 z1, h6 z1, z z1])
    refine And.intro (fun h => ?_) (fun h => ?_)
    · rw [nw hn (by omega)] at h
      have := nle_use h
      exact nx (fun _ => by omega)
    · rw [nw hn (by omega)] at h
      have hjn := nlt_use h
      refine And.intro (fun q => ?_) (fun q => ?_)
      · exact nx (fun z => absurd (show nI w = nI 6 by rw [z]) q)
      · have q : w = 6 := neq_use (a := w) (b := 6) q
        refine ix_i (6 + j) (by simp only [nI_add]) (show _ < 78 by omega) ?_
        have stp : ∀ b, b = b1 (qk D j) → ab_At miX10_counted (d + 1) 4 [some (vr 49 0), some (vi (nI w)), some (vi (nI m + nI b)), some (vi (nI j + nI 1))] [] M (fun r M => K (r.map ab_nr) M) := by
          intro b hb
          have := ih hjn (m + b) (fun _ => by rw [h6 q, hb]; rfl) (fun z => absurd q z)
          rw [← nI_1 j, ← nI_add] at this
          exact this
        refine m_isOf_e (a := kds D j) (nw hn (by omega)) (hw.1.2.2.2.1 j hjn) (by omega) (fun z => ?_) (fun z => ?_)
        · exact stp 1 (by rw [show qk D j = true by unfold qk; simp; omega]; rfl)
        · exact stp 0 (by rw [show qk D j = false by unfold qk; simp; omega]; rfl)
  exact L4 0 (Nat.zero_le _) 0 (fun _ => rfl) (fun _ => rfl)
theorem op_count {x : Int32} (hR : Rel M) : OpI (d + 2) 146 262 [vi x] M := by
  obtain ⟨D, hw, hw2, hw3, hl, hc, hn, hk⟩ := Rel_D hR
  rcases ix_cases x (n := 10) (by omega) with ⟨w, hw9, rfl⟩ | hx
  · refine c_count hR hw hl hc hk hw9 ?_
    refine ab_Call_nr (caX10_count rfl (atX10_count (c_inP (n := 10) rfl rfl hw9 (by omega) ?_)))
    refine m_counted hR hw hn hw9 ?_
    exact ⟨⟨_, rfl, rfl⟩, hR⟩
  · have hm : ab_Call (d + 2) 262 [vr 49 0, vi x] M (fun r2 M2 => (∃ v, some (vi (-1)) = some (vi v) ∧ r2 = some (vi v)) ∧ Rel M2) := by
      refine ab_Call_nr (caX10_count rfl (atX10_count (c_in0 (n := 10) rfl rfl (by omega) hx ?_)))
      exact ⟨⟨_, rfl, rfl⟩, hR⟩
    refine ab_Call_nr (caX9_count rfl (atX9_count ?_))
    have no : ∀ k : Nat, k < 10 → ¬ x = nI k := fun k hk q => hx k hk q
    refine And.intro (fun q => hm) (And.intro (fun q => absurd q (no 0 (by omega))) (And.intro (fun q => absurd q (no 1 (by omega))) (And.intro (fun q => absurd q (no 2 (by omega))) (And.intro (fun q => absurd q (no 3 (by omega))) (And.intro (fun q => absurd q (no 4 (by omega))) (And.intro (fun q => absurd q (no 5 (by omega))) (And.intro (fun q => absurd q (no 6 (by omega))) (And.intro (fun q => absurd q (no 7 (by omega))) (And.intro (fun q => absurd q (no 8 (by omega))) (And.intro (fun q => absurd q (no 9 (by omega))) trivial))))))))))
end Count2
