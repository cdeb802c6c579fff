/-! ===== best: the step ===== -/
theorem frJ_sI2 {n g i k : Nat} {v : Int32} {A B : ab_M} (h : frJ n A B) : frJ n (ab_sI A g i k v) (ab_sI B g i k v) := by
  refine ⟨fun a b c q w => ?_, h.2.1, h.2.2⟩
  by_cases e : a = g ∧ b = i ∧ c = k
  · obtain ⟨rfl, rfl, rfl⟩ := e
    rw [sI_eq, sI_eq]
  · rw [sI_ne e, sI_ne e]
    exact h.1 a b c q w
section BestO
variable {d : Nat} {M : ab_M} {K : ab_K} {D : Nat → Nat}
theorem op_best (hR : Rel M) : OpI (d + 5) 131 231 [] M := by
  obtain ⟨D, hw, hw2, hw3, hl, hc, hn, hk⟩ := Rel_D hR
  have hb := bnd_of hw
  have b4 := hb.2.1
  have b5 := hb.2.2.1
  rcases Nat.eq_zero_or_pos (D 4) with h4 | h4
  · refine ab_Call_nr (caX9_best rfl (atX9_best (c_isLaid0 hc h4 ?_)))
    refine ab_Call_nr (caX10_best rfl (atX10_best (m_hasTrail0 hn h4 ?_)))
    exact ⟨⟨_, rfl, rfl⟩, hR⟩
  · have z0 : D 0 ≠ 0 := by
      have := hw.2.2.1
      omega
    refine ab_Call_nr (caX9_best rfl (atX9_best (c_isLaid1 hc hb h4 ?_)))
    rcases Nat.lt_or_ge (D 5) 8 with h5 | h5
    · refine c_isFull0 hc h5 ?_
      have z7 : D 0 ≤ 7 := hw.1.1
      have h54 : M.1 54 0 5 = nI (D 5) := nw hn (by omega)
      have h00 : ¬ M.1 54 0 0 = nI 0 := by rw [nw hn (by omega), nI_eq (by omega) (by omega)]; exact z0
      have non : ∀ M1, frA M M1 → (D 1 = 0 ∨ (bst D 700).1 = 0) → ab_Call (d + 5) 231 [vr 49 0] M1 (fun r2 M2 => (∃ v, some (vi (-9)) = some (vi v) ∧ r2 = some (vi v)) ∧ Rel M2) := by
        intro M1 f1 h
        have n1 := frA_nw f1 (by omega) (by omega) hn
        refine m_best n1 hw h4 h5 (fun _ => ⟨⟨_, rfl, rfl⟩, Rel_frA hR f1⟩) (fun hp M' f' => ⟨fun _ => ⟨⟨_, rfl, rfl⟩, Rel_junk hR (frJ_trans (frJ_A f1) f') h54 (by omega) h00⟩, fun w => ?_⟩)
        rcases h with h | h
        · omega
        · exact absurd h w
      refine c_bestEnd hl hc hw h4 h5 (fun M1 f1 h1 => ?_) (fun M1 f1 h1 h8 => ?_)
      · refine And.intro (fun q => absurd rfl q) (fun _ => ?_)
        exact non M1 f1 (Or.inl h1)
      · by_cases w : (bst D 700).1 = 0
        · refine And.intro (fun q => absurd (by rw [w]; rfl) q) (fun _ => ?_)
          exact non M1 f1 (Or.inr w)
        · have hbl := bst_le hw h5 h1 700
          have eb := bI_p w
          refine And.intro (fun _ => ?_) (fun q => absurd (by rw [← eb]; exact q) (n9 (k := (bst D 700).1) (by omega)))
          have n1 : nwM (ab_sI M1 0 0 14 (M1.1 39 0 8)) 54 0 D := fun k hk => frA_nw f1 (by omega) (by omega) hn k hk
          refine m_best (M := ab_sI M1 0 0 14 (M1.1 39 0 8)) n1 hw h4 h5 (fun q => by omega) (fun hp M' f' => ⟨fun q => absurd q w, fun _ => ⟨⟨_, congrArg (fun v => some (vi v)) eb, rfl⟩, ?_⟩⟩)
          have e8 := h8 (by omega)
          rw [← e8]
          have R1 := Rel_told (M1.1 39 0 8) hR f1 frA_refl
          refine Rel_junk R1 (frJ_sI2 f') ?_ (show D 5 ≤ 8 by omega) ?_
          · exact (f1.1 54 0 5 (by unfold scr; omega)).trans h54
          · intro q
            exact h00 ((f1.1 54 0 0 (by unfold scr; omega)).symm.trans q)
    · have : D 5 = 8 := by omega
      refine c_isFull1 hc this ?_
      refine ab_Call_nr (caX10_best rfl (atX10_best (m_hasTrail1 hn h4 b4 ?_)))
      refine And.intro (fun q => absurd (by rw [nw hn (by omega), this]) q) (fun _ => ?_)
      exact ⟨⟨_, rfl, rfl⟩, hR⟩
end BestO
