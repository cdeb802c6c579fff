/-! ===== what is told; counting ===== -/
section Ops3
variable {d : Nat} {M : ab_M} {K : ab_K}
theorem op_asked (hR : Rel M) : OpI d 143 258 [] M := by
  refine ab_Call_nr (caX9_asked rfl (atX9_asked ?_))
  refine ab_Call_nr (caX10_asked rfl (atX10_asked ?_))
  exact ⟨⟨_, rfl, congrArg (fun v => some (vi v)) hR.2.2.1.1.symm⟩, hR⟩
theorem op_upper (hR : Rel M) : OpL d 144 259 [] M := by
  refine ab_Call_nr (caX9_upper rfl (atX9_upper ?_))
  refine ab_Call_nr (caX10_upper rfl (atX10_upper ?_))
  exact ⟨⟨_, rfl, congrArg (fun v => some (vl v)) hR.2.2.1.2.1.symm⟩, hR⟩
theorem op_lower (hR : Rel M) : OpL d 145 260 [] M := by
  refine ab_Call_nr (caX9_lower rfl (atX9_lower ?_))
  refine ab_Call_nr (caX10_lower rfl (atX10_lower ?_))
  exact ⟨⟨_, rfl, congrArg (fun v => some (vl v)) hR.2.2.1.2.2.1.symm⟩, hR⟩
theorem op_finding (hR : Rel M) : OpI d 147 263 [] M := by
  refine ab_Call_nr (caX9_finding rfl (atX9_finding ?_))
  refine ab_Call_nr (caX10_finding rfl (atX10_finding ?_))
  exact ⟨⟨_, rfl, congrArg (fun v => some (vi v)) hR.2.2.1.2.2.2.1.symm⟩, hR⟩
theorem op_findings {x : Int32} (hR : Rel M) : OpI (d + 1) 148 264 [vi x] M := by
  by_cases h : nI 1 ≤ x ∧ x ≤ nI 5
  · obtain ⟨j, hj, rfl⟩ : ∃ j, j < 2 ^ 31 ∧ x = nI j := i_of_ge (i_le_trans (nI_le (by omega) (by omega)) h.1)
    have h1 := nle_use h.1
    have h5 := nle_use h.2
    refine ab_Call_nr (caX9_findings rfl (atX9_findings ?_))
    refine And.intro (fun q => absurd q (fun q => i_lt_le q h.1)) (fun _ => And.intro (fun _ => ?_) (fun q => absurd q (fun q => i_lt_le q h.2)))
    refine ix_i j rfl (show j < 6 by omega) ?_
    refine ab_Call_nr (caX10_findings rfl (atX10_findings ?_))
    refine c_in1 rfl rfl h1 h5 (by omega) ?_
    refine ix_i j rfl (show j < 6 by omega) ?_
    exact ⟨⟨_, rfl, congrArg (fun v => some (vi v)) (hR.2.2.1.2.2.2.2 j h1 h5).symm⟩, hR⟩
  · have bad : ab_Call (d + 1) 264 [vr 49 0, vi x] M (fun r2 M2 => (∃ v, some (vi (-1)) = some (vi v) ∧ r2 = some (vi v)) ∧ Rel M2) := by
      refine ab_Call_nr (caX10_findings rfl (atX10_findings ?_))
      refine c_in rfl rfl (fun h1 h2 => absurd ⟨h1, h2⟩ h) (fun _ => ?_)
      exact ⟨⟨_, rfl, rfl⟩, hR⟩
    refine ab_Call_nr (caX9_findings rfl (atX9_findings ?_))
    refine And.intro (fun _ => bad) (fun q => And.intro (fun q2 => absurd ⟨q, q2⟩ h) (fun _ => bad))
end Ops3
