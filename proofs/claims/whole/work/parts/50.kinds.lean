/-! ===== kinds: the law's step ===== -/
section Kinds2
variable {d : Nat} {M : ab_M} {K : ab_K} {D : Nat → Nat}
theorem c_kinds {r : Nat} (hl : ldC M 0 D) (hc : crC M 0 D) (hw : wf D) (hr : r < 6) (hK : ∀ M', frS 21 38 M M' → K (some (vi (nI (bs (fun kd => agr D (M.1 3 r) kd (D 4)) 6)))) M') : ab_At miX9_kinds (d + 4) 100 [some (vr 0 0), some (vi (nI r)), some (vi (nI 0)), some (vi (nI 0))] [] M K := by
  have key : ∀ j, j ≤ 6 → ∀ M', frS 21 38 M M' → ab_At miX9_kinds (d + 4) 100 [some (vr 0 0), some (vi (nI r)), some (vi (nI (bs (fun kd => agr D (M.1 3 r) kd (D 4)) j))), some (vi (nI j))] [] M' K := by
    refine up_ind fun j hj ih M' hf => ?_
    refine atX9_kinds ?_
    refine And.intro (fun h => ?_) (fun h => ?_)
    · have : j = 6 := by have := nle_use h; omega
      subst this
      exact hK M' hf
    · have hjn := nlt_use h
      refine c_gatherOne (kd := j) (by omega) (fun M1 f1 h1 => ?_)
      have f1' := frS_trans hf (frS_mono f1 (by omega) (by omega))
      refine c_pursueAll (frS_ld f1' (by omega) hl) (frS_cr f1' (by omega) hc) hw h1 (by omega) (fun i hi => by show j ≤ 5; omega) (fun M2 f2 h2 => ?_)
      have f2' := frS_trans f1' f2
      have e3 : M2.1 3 r = M.1 3 r := f2'.2 3 r (by omega)
      refine ix_i r rfl hr ?_
      refine c_agrees hw hr h2 (fun b hb => ?_)
      rw [e3] at hb
      have := ih hjn M2 f2'
      rw [← nI_1 j] at this
      refine And.intro (fun q => ?_) (fun q => ?_)
      · rw [hb] at q
        have q := b1_0 q
        rw [bs_e0 (p := fun kd => agr D (M.1 3 r) kd (D 4)) q] at this
        exact this
      · rw [hb] at q
        have q := b1_1 q
        rw [bs_s1 (p := fun kd => agr D (M.1 3 r) kd (D 4)) q, ← nI_shl1 (by omega)] at this
        exact this
  exact key 0 (Nat.zero_le _) M frS_refl
theorem m_kinds {r : Nat} {f : Nat → Int32} (hn : nwM M 54 0 D) (hw : wf D) (hr : r < 6) (h4 : 0 < D 4) (hf : ∀ k, k < D 4 → M.1 51 0 (40 * r + k) = f k) (hK : K (some (vi (nI (bs (fun kd => agr D f kd (D 4)) 6)))) M) : ab_At miX10_kinds (d + 3) 105 [some (vr 49 0), some (vi (nI r)), some (vi (nI 0)), some (vi (nI 0))] [] M K := by
  have key : ∀ j, j ≤ 6 → ab_At miX10_kinds (d + 3) 105 [some (vr 49 0), some (vi (nI r)), some (vi (nI (bs (fun kd => agr D f kd (D 4)) j))), some (vi (nI j))] [] M K := by
    refine up_ind fun j hj ih => ?_
    refine atX10_kinds ?_
    refine And.intro (fun h => ?_) (fun h => ?_)
    · have : j = 6 := by have := nle_use h; omega
      subst this
      exact hK
    · have hjn := nlt_use h
      have e3 : M.1 54 0 3 = nI (D 3) := nw hn (by omega)
      have := m_agr (d := d) (K := K) (set := bs (fun kd => agr D f kd (D 4)) j) hn hw hr h4 (show j ≤ 5 by omega) hf (by
        have := ih hjn
        rw [← nI_1 j] at this
        by_cases q : agr D f j (D 4) = true
        · rw [if_pos q]
          rw [bs_s1 (p := fun kd => agr D f kd (D 4)) q, ← nI_shl1 (by omega)] at this
          exact this
        · rw [if_neg q]
          rw [bs_s0 (p := fun kd => agr D f kd (D 4)) (by simpa using q)] at this
          exact this)
      rw [← e3] at this
      exact this
  exact key 0 (Nat.zero_le _)
theorem m_scan {r : Nat} {f : Nat → Int32} (hn : nwM M 54 0 D) (hw : wf D) (hr : r < 6) (h4 : 0 < D 4) (hf : ∀ k, k < D 4 → M.1 51 0 (40 * r + k) = f k) (h1 : snk f (D 4) → K (some (vi (nI (bs (fun kd => agr D f kd (D 4)) 6)))) M) (h0 : ¬ snk f (D 4) → K (some (.inl (-3))) (rfM M 3)) : ab_At miX10_kinds (d + 3) 57 [some (vr 49 0), some (vi (nI r)), some (vi (nI 0))] [] M K := by
  have hb4 := (bnd_of hw).2.1
  have key : ∀ j, j ≤ D 4 → snk f j → ab_At miX10_kinds (d + 3) 57 [some (vr 49 0), some (vi (nI r)), some (vi (nI j))] [] M K := by
    refine up_ind fun j hj ih hs => ?_
    refine atX10_kinds ?_
    refine And.intro (fun h => ?_) (fun h => ?_)
    · rw [nw hn (by omega)] at h
      have : j = D 4 := by have := nle_use h; omega
      subst this
      exact m_kinds hn hw hr h4 hf (h1 hs)
    · rw [nw hn (by omega)] at h
      have hjn := nlt_use h
      have ec := hf j hjn
      have go : ¬ (f j < nI 0 ∧ ¬ f j = -9) → ab_At miX10_kinds (d + 3) 57 [some (vr 49 0), some (vi (nI r)), some (vi (nI j + nI 1))] [] M K := by
        intro w
        have := ih hjn (fun k hk => by by_cases e : k = j; rw [e]; exact w; exact hs k (by omega))
        rw [← nI_1 j] at this
        exact this
      refine ix_i (40 * r + j) (by simp only [pk_mul, nI_add]) (show _ < 240 by omega) ?_
      refine And.intro (fun q => ?_) (fun q => ?_)
      · rw [ec] at q
        exact go (fun w => i_lt_le w.1 q)
      · rw [ec] at q
        refine And.intro (fun q2 => ?_) (fun q2 => ?_)
        · rw [ec] at q2
          exact go (fun w => w.2 q2)
        · rw [ec] at q2
          refine m_found (f := 3) (by omega) (by omega) ?_
          exact h0 (fun w => w j hjn ⟨q, q2⟩)
  exact key 0 (Nat.zero_le _) (fun k hk => absurd hk (by omega))
theorem op_kinds {x : Int32} (hR : Rel M) : OpI (d + 5) 141 256 [vi x] M := by
  obtain ⟨D, hw, hw2, hw3, hl, hc, hn, hk⟩ := Rel_D hR
  have hb := bnd_of hw
  have hb4 := hb.2.1
  rcases ix_cases x (n := 6) (by omega) with ⟨r, hr, rfl⟩ | hx
  · rcases Nat.eq_zero_or_pos (D 4) with h4 | h4
    · refine ab_Call_nr (caX9_kinds rfl (atX9_kinds (c_hasR1 hr (c_isLaid0 hc h4 ?_))))
      refine ab_Call_nr (caX10_kinds rfl (atX10_kinds (m_isRow1 hr (m_hasTrail0 hn h4 ?_))))
      exact ⟨⟨_, rfl, rfl⟩, hR⟩
    · refine ab_Call_nr (caX9_kinds rfl (atX9_kinds (c_hasR1 hr (c_isLaid1 hc hb h4 ?_))))
      rcases rw_cases hR hr with ⟨s1, s2⟩ | ⟨n, n40, s1, s2, s3⟩
      · refine c_isThRm hr s1 ?_
        refine c_refuse (f := 1) (by omega) (by omega) ?_
        refine ab_Call_nr (caX10_kinds rfl (atX10_kinds (m_isRow1 hr (m_hasTrail1 (D := D) (fun k hk => hn k hk) h4 hb4 ?_))))
        refine ix_i r rfl hr ?_
        refine And.intro (fun q => absurd (neg_m1 s2) (fun w => i_lt_le w q)) (fun _ => ?_)
        refine m_found (f := 1) (by omega) (by omega) ?_
        exact ⟨⟨_, rfl, rfl⟩, Rel_rf 1 hR⟩
      · refine c_isThR hr n40 s1 ?_
        refine ix_i r rfl hr ?_
        refine And.intro (fun q => ?_) (fun q => ?_)
        · have q : nI n = nI (D 4) := by rw [← s1, ← hc.2.1]; exact q
          have hnD : n = D 4 := neq_use q
          subst hnD
          refine ix_i r rfl hr ?_
          refine c_areSeen hc.2.1 hr n40 (fun w => ?_) (fun w => ?_)
          · refine c_kinds hl hc hw hr (fun M1 f1 => ?_)
            have f1' := frA_S f1 (by omega)
            have hn1 := frA_nw f1' (by omega) (by omega) hn
            have s2' : M1.1 50 0 r = nI (D 4) := by rw [f1.2 50 0 (by omega)]; exact s2
            have s3' : ∀ k, k < D 4 → M1.1 51 0 (40 * r + k) = M.1 3 r k := fun k hk => by rw [f1.2 51 0 (by omega)]; exact (s3 k hk).symm
            refine ab_Call_nr (caX10_kinds rfl (atX10_kinds (m_isRow1 hr (m_hasTrail1 hn1 h4 hb4 ?_))))
            refine ix_i r rfl hr ?_
            refine And.intro (fun _ => ?_) (fun q2 => absurd q2 (neg_no s2' (by omega)))
            refine ix_i r rfl hr ?_
            refine And.intro (fun _ => ?_) (fun q2 => absurd (s2'.trans (nw hn1 (show 4 < 78 by omega)).symm) q2)
            refine m_scan hn1 hw hr h4 s3' (fun _ => ?_) (fun z => absurd w z)
            exact ⟨⟨_, rfl, rfl⟩, Rel_frA hR f1'⟩
          · refine c_refuse (f := 3) (by omega) (by omega) ?_
            have hn1 : nwM (rfC M 3) 54 0 D := fun k hk => hn k hk
            refine ab_Call_nr (caX10_kinds rfl (atX10_kinds (m_isRow1 hr (m_hasTrail1 hn1 h4 hb4 ?_))))
            refine ix_i r rfl hr ?_
            refine And.intro (fun _ => ?_) (fun q2 => absurd q2 (neg_no (x := (rfC M 3).1 50 0 r) s2 (by omega)))
            refine ix_i r rfl hr ?_
            refine And.intro (fun _ => ?_) (fun q2 => absurd (s2.trans (nw hn (show 4 < 78 by omega)).symm) q2)
            refine m_scan (f := M.1 3 r) hn1 hw hr h4 (fun k hk => (s3 k hk).symm) (fun z => absurd z w) (fun _ => ?_)
            exact ⟨⟨_, rfl, rfl⟩, Rel_rf 3 hR⟩
        · have q : ¬ nI n = nI (D 4) := by rw [← s1, ← hc.2.1]; exact q
          refine c_refuse (f := 5) (by omega) (by omega) ?_
          have hn1 : nwM (rfC M 5) 54 0 D := fun k hk => hn k hk
          refine ab_Call_nr (caX10_kinds rfl (atX10_kinds (m_isRow1 hr (m_hasTrail1 hn1 h4 hb4 ?_))))
          refine ix_i r rfl hr ?_
          refine And.intro (fun _ => ?_) (fun q2 => absurd q2 (neg_no (x := (rfC M 5).1 50 0 r) s2 (by omega)))
          refine ix_i r rfl hr ?_
          refine And.intro (fun q2 => absurd (s2.symm.trans (q2.trans (nw hn (show 4 < 78 by omega)))) q) (fun _ => ?_)
          refine m_found (f := 5) (by omega) (by omega) ?_
          exact ⟨⟨_, rfl, rfl⟩, Rel_rf 5 hR⟩
  · refine ab_Call_nr (caX9_kinds rfl (atX9_kinds (c_hasR0 hx ?_)))
    refine ab_Call_nr (caX10_kinds rfl (atX10_kinds (m_isRow0 hx ?_)))
    exact ⟨⟨_, rfl, rfl⟩, hR⟩
end Kinds2
