/-! ===== run: one hound's draws ===== -/
section Run2
variable {d : Nat} {M : ab_M} {K : ab_K} {D : Nat → Nat}
theorem c_drawOne {x : Int64} (hl : ldC M 0 D) (hc : crC M 0 D) (hw : wf D) (h4 : 0 < D 4) (hK : K (some (vi (nI (drs D (x, 0) (D 4 - 1)).2))) (ltM M (drs D (x, 0) (D 4 - 1)).1)) : ab_Call (d + 1) 64 [vr 46 0] (ltM M x) K := by
  refine caX4_drawOne rfl (atX4_drawOne ?_)
  have hb := bnd_of hw
  have hb' := hb
  obtain ⟨b3, b4, b5, b6, b7, b8⟩ := hb'
  have h0 : D 0 ≤ 7 := hw.1.1
  have out : ∀ k, k ≤ D 4 - 1 → ab_At miX4_drawOne (d + 1) 4 [some (vr 46 0), some (vi (nI (drs D (x, 0) k).2)), some (vi (nI k))] [] (ltM M (drs D (x, 0) k).1) K := by
    refine up_ind fun k hk ih => ?_
    refine atX4_drawOne ?_
    refine c_last (D := D) (M := ltM M (drs D (x, 0) k).1) hc h4 ?_
    refine And.intro (fun h => ?_) (fun h => ?_)
    · have : k = D 4 - 1 := by have := nle_use h; omega
      subst this
      exact hK
    · have hkn := nlt_use h
      have bk := b7 k (by omega)
      have inner : ∀ t, t ≤ D 0 → ab_At miX4_drawOne (d + 1) 17 [some (vr 46 0), some (vi (nI (drw D k (drs D (x, 0) k) t).2)), some (vi (nI k)), some (vi (nI t))] [] (ltM M (drw D k (drs D (x, 0) k) t).1) K := by
        refine up_ind fun t ht ih2 => ?_
        refine atX4_drawOne ?_
        have e0 : M.1 9 0 0 = nI (D 0) := hl.1
        refine And.intro (fun q => ?_) (fun q => ?_)
        · have q : nI (D 0) ≤ nI t := by rw [← e0]; exact q
          have : t = D 0 := by have := nle_use q; omega
          subst this
          have := ih hkn
          rw [← nI_1 k, drs] at this
          exact this
        · have q : nI t < nI (D 0) := by rw [← e0]; exact q
          have htn := nlt_use q
          have := ih2 htn
          rw [← nI_1 t, drw] at this
          refine ix_i k rfl (show k < 7 by omega) ?_
          refine c_endBetween_e (D := D) (M := ltM M (drw D k (drs D (x, 0) k) t).1) (hc.2.2.2.2.1 k (by omega)) hc hb (by omega) (by omega) (fun e he e1 e2 _ => ?_) (fun hno => ?_)
          · rw [if_pos (hasE_1 he e1 e2)] at this
            refine And.intro (fun w => absurd w (n9 (by omega))) (fun _ => ?_)
            generalize hs : drw D k (drs D (x, 0) k) t = st at this ⊢
            have hm : ltM M (lt1 st.1) = ab_sJ (ltM M st.1) 46 0 5 (lt1 st.1) := (sJ_sJ M 46 0 5 st.1 (lt1 st.1)).symm
            have e18 : M.1 18 0 e = nI (D (69 + e)) := (hc.2.2.2.2.2 e he).2.2
            simp only [] at this
            rw [hm] at this
            have no : odd1 (lt1 st.1) = false → ab_At miX4_drawOne (d + 1) 17 [some (vr 46 0), some (vi (nI st.2 + nI 0)), some (vi (nI k)), some (vi (nI t + nI 1))] [] (ab_sJ (ltM M st.1) 46 0 5 (lt1 st.1)) K := by
              intro w
              rw [w, if_neg (by decide), ← nI_add] at this
              exact this
            refine And.intro (by decide) ?_
            refine And.intro (by decide) ?_
            refine And.intro (fun q => ?_) (And.intro (fun q => ?_) (fun q => ?_))
            · exact no (decide_eq_false (fun w => by
                have q : ab_remL (lt1 st.1) (Int64.ofInt 2) < 1 := q
                rw [w] at q
                exact absurd q (by decide)))
            · have w : odd1 (lt1 st.1) = true := decide_eq_true q
              refine ix_i e rfl (show e < 8 by omega) ?_
              rw [w, if_pos rfl, wad_1 hw he e1 e2, ← nI_add, ← pk_mul, ← e18] at this
              exact this
            · exact no (decide_eq_false (fun w => by
                have q : 1 < ab_remL (lt1 st.1) (Int64.ofInt 2) := q
                rw [w] at q
                exact absurd q (by decide)))
          · rw [hasE_0 hno] at this
            exact this
      exact inner 0 (Nat.zero_le _)
  exact out 0 (Nat.zero_le _)
end Run2
