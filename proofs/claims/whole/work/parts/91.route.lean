/-! ===== route: the step ===== -/
section RouteO
variable {d : Nat} {M : ab_M} {K : ab_K} {D : Nat → Nat}
theorem op_route {x : Int32} (hR : Rel M) : OpI (d + 6) 135 245 [vi x] M := by
  obtain ⟨D, hw, hw2, hw3, hl, hc, hn, hk⟩ := Rel_D hR
  have w0 := hw.1.1
  have w1 := hw.1.2.1
  rcases ix_cases x (n := 6) (by omega) with ⟨r, hr, rfl⟩ | hx
  · rcases hw2 with h0 | h2
    · refine ab_Call_nr (caX9_route rfl (atX9_route (c_hasR1 hr (c_isBare1 hl h0 ?_))))
      refine ab_Call_nr (caX10_route rfl (atX10_route (m_isRow1 hr ?_)))
      refine And.intro (fun q => absurd (by rw [nw hn (by omega), h0]) q) (fun _ => ?_)
      exact ⟨⟨_, rfl, rfl⟩, hR⟩
    · obtain ⟨L, hL, hS⟩ := Sq_all h2 w0
      have e1 : M.1 9 0 1 = nI (D 1) := hl.2.1
      have non : ∀ M1, frA M M1 → (D 1 = 0 ∨ bsf (vR D) L none = none) → ab_Call (d + 6) 245 [vr 49 0, vi (nI r)] M1 (fun r2 M2 => (∃ v, some (vi (-9)) = some (vi v) ∧ r2 = some (vi v)) ∧ Rel M2) := by
        intro M1 f1 h
        refine m_route hr (frA_nw f1 (by omega) (by omega) hn) hw h2 hS (fun M' y hH hb => ?_) (fun M' f' _ => ?_)
        · rcases h with h | h
          · omega
          · exact absurd (h.symm.trans hb) (by simp)
        · exact ⟨⟨_, rfl, rfl⟩, Rel_frA hR (frA_trans f1 f')⟩
      refine ab_Call_nr (caX9_route rfl (atX9_route (c_hasR1 hr (c_isBare0 hl (by omega) w0 ?_))))
      refine And.intro (fun q => ?_) (fun q => ?_)
      · rw [e1] at q
        exact non M frA_refl (Or.inl (neq_use q))
      · rw [e1] at q
        have hH : 0 < D 1 := Nat.pos_of_ne_zero (nne_use q)
        refine c_findFurthest (d := d + 1) hl hc hw h2 hH hL hS (fun M1 y f1 hb ht hk1 => ?_) (fun M1 f1 hb => non M1 f1 (Or.inr hb))
        obtain ⟨y0, y7, k5, k6, k45⟩ := hk1
        refine c_fill45 k5 hr y7 ?_
        generalize hM4 : ab_sC (ab_sI M1 4 0 r (nI y.1)) 45 0 0 3 r 0 y.1 = M4
        have f4 : frR r M M4 := by rw [← hM4]; exact frR_sC (frR_sI (frR_A f1) (Or.inl ⟨rfl, rfl, rfl⟩))
        have r4 : M4.1 4 0 r = nI y.1 := by rw [← hM4]; simp [ab_sC, ab_sI]
        have r3 : ∀ k, k < y.1 → M4.1 3 r k = nI (y.2 k) := by
          intro k hk
          rw [← hM4]
          show (if 3 = 3 ∧ r = r ∧ 0 ≤ k ∧ k < 0 + y.1 then (ab_sI M1 4 0 r (nI y.1)).1 45 0 (0 + (k - 0)) else _) = _
          rw [if_pos ⟨rfl, rfl, by omega, by omega⟩, sI_g (by omega), Nat.sub_zero, Nat.zero_add]
          exact k45 k hk
        have e6 : M4.1 43 0 6 = vRi D y := by
          rw [← hM4]
          show M1.1 43 0 6 = _
          exact k6
        have e5 : M4.1 43 0 5 - nI 1 = nI (y.1 - 1) := by
          rw [← hM4]
          show M1.1 43 0 5 - nI 1 = _
          rw [k5, pk_sub (by omega)]
        have f5 : frR r M (ab_sI M4 0 0 14 (M4.1 43 0 6)) := frR_sI f4 (Or.inr (Or.inr (Or.inr (Or.inr (Or.inl ⟨rfl, rfl, rfl⟩)))))
        have hn4 := frR_nw f5 hn
        refine m_route (M := ab_sI M4 0 0 14 (M4.1 43 0 6)) hr hn4 hw h2 hS (fun M' y' _ hb' y7' f' g' s50 s51 => ?_) (fun M' f' h => ?_)
        · have ey : y = y' := by have := hb.symm.trans hb'; simpa using this
          subst ey
          refine ⟨⟨M4.1 43 0 5 - nI 1, rfl, by rw [e5]⟩, ?_⟩
          refine Rel_rows hR hr (n := y.1) (by omega) (frR_sI (frR_trans f5 f') (Or.inr (Or.inr (Or.inr (Or.inr (Or.inr ⟨rfl, rfl, rfl⟩)))))) ?_ s50 (fun k hk => ?_) ?_
          · show M'.1 4 0 r = _
            rw [g' 4 0 r (by unfold scr; omega) (by omega) (by omega)]; exact r4
          · show M'.1 3 r k = M'.1 51 0 (40 * r + k)
            rw [g' 3 r k (by unfold scr; omega) (by omega) (by omega), s51 k hk]; exact r3 k hk
          · rw [sI_eq]
            show M'.1 0 0 14 = _
            rw [g' 0 0 14 (by unfold scr; omega) (by omega) (by omega), sI_eq]
            exact e6
        · rcases h with h | h
          · omega
          · exact absurd (h.symm.trans hb) (by simp)
  · refine ab_Call_nr (caX9_route rfl (atX9_route (c_hasR0 hx ?_)))
    refine ab_Call_nr (caX10_route rfl (atX10_route (m_isRow0 hx ?_)))
    exact ⟨⟨_, rfl, rfl⟩, hR⟩
end RouteO
