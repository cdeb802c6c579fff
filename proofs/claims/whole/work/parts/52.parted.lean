/-! ===== parted: the reference, the law's step ===== -/
section Parted2
variable {d : Nat} {M : ab_M} {K : ab_K} {D : Nat → Nat}
theorem m_isWindy_e {p : Nat} {v : Int32} (hv : v = nI p) (hn : nwM M 54 0 D) (hw : D 77 < 128) (hp : p < 7) (h1 : wb (D 77) p = 1 → K (some (.inl 1)) M) (h0 : wb (D 77) p = 0 → K (some (.inl 0)) M) : ab_Call d 189 [vr 49 0, vi v] M K := by
  subst hv
  exact m_isWindy hn hw hp h1 h0
theorem m_parted {k n : Nat} (hn : nwM M 54 0 D) (hw : wf D) (hk : k < D 4) (n1 : 1 ≤ n) (n9 : n ≤ 9) (hK : ∀ M', frS 66 66 M M' → K (some (vi (nI (if k + 1 < D 4 then FF D (D (46 + k)) n (D (46 + k + 1)) (am (FF D (D (46 + k)) n (D (46 + k + 1))) n) + (if wy D k then 2 else 0) else 0)))) M') : ab_Call (d + 2) 247 [vr 49 0, vi (nI k), vi (nI n)] M K := by
  refine ab_Call_nr (caX10_parted rfl (atX10_parted ?_))
  have hb := bnd_of hw
  have hb' := hb
  obtain ⟨b3, b4, b5, b6, b7, b8⟩ := hb'
  refine c_in1 (lo := 1) (hi := 9) rfl rfl n1 n9 (by omega) ?_
  refine m_rf hn hb hk ?_
  refine And.intro (fun q => ?_) (fun q => ?_)
  · have q : ¬ nI k = nI (D 4 - 1) := by rw [← pk_sub (by omega), ← nw hn (show 4 < 78 by omega)]; exact q
    have q := nne_use q
    have hk1 : k + 1 < D 4 := by omega
    rw [if_pos hk1] at hK
    have bk := b7 k hk
    have bk1 : D (46 + k + 1) < 7 := b7 (k + 1) hk1
    have fl : ∀ t i, t ≤ 7 → FF D (D (46 + k)) n t i < 1000 := fun t i ht => by have := FF_le hb (h := D (46 + k)) (n := n) (i := i) t; omega
    have second : ∀ t, t ≤ D (46 + k + 1) → ∀ M', frS 66 66 M M' → (∀ i, i < n → M'.1 66 0 i = nI (FF D (D (46 + k)) n t i)) → ab_At miX10_parted (d + 2) 67 [some (vr 49 0), some (vi (nI k)), some (vi (nI n)), none, some (vi (nI t))] [] M' (fun r M => K (r.map ab_nr) M) := by
      refine up_ind fun t ht ih M' hf hm => ?_
      refine atX10_parted ?_
      have hn' : nwM M' 54 0 D := frS_nw hf (by omega) hn
      have ek : M'.1 54 0 (46 + k) = nI (D (46 + k)) := nw hn' (by omega)
      have ek1 : M'.1 54 0 (46 + k + 1) = nI (D (46 + k + 1)) := nw hn' (by omega)
      have ha := am_lt (F := FF D (D (46 + k)) n t) (n := n) (by omega)
      refine ix_i (46 + k + 1) (by simp only [nI_add]) (show _ < 78 by omega) ?_
      refine And.intro (fun h => ?_) (fun h => ?_)
      · rw [ek1] at h
        exact absurd (nlt_use h) (by omega)
      · have inner : ∀ j, j ≤ n → 1 ≤ j → ab_At miX10_parted (d + 2) 89 [some (vr 49 0), some (vi (nI k)), some (vi (nI n)), none, some (vi (nI t)), some (vi (nI (am (FF D (D (46 + k)) n t) j))), some (vi (nI j))] [] M' (fun r M => K (r.map ab_nr) M) := by
          refine up_ind fun j hj ih2 j1 => ?_
          refine atX10_parted ?_
          refine And.intro (fun h => ?_) (fun h => ?_)
          · have : j = n := by have := nle_use h; omega
            subst this
            refine ix_i (46 + k + 1) (by simp only [nI_add]) (show _ < 78 by omega) ?_
            refine And.intro (fun h2 => ?_) (fun h2 => ?_)
            · rw [ek1] at h2
              have h2 := nne_use h2
              have adds : ∀ e, e ≤ D 5 → ∀ M'', frS 66 66 M M'' → (∀ i, i < j → M''.1 66 0 i = nI (if i = am (FF D (D (46 + k)) j t) j then FF D (D (46 + k)) j t i + wad D (D (46 + k)) t e else FF D (D (46 + k)) j t i)) → ab_At miX10_parted (d + 2) 176 [some (vr 49 0), some (vi (nI k)), some (vi (nI j)), none, some (vi (nI t)), some (vi (nI (am (FF D (D (46 + k)) j t) j))), some (vi (nI e))] [] M'' (fun r M => K (r.map ab_nr) M) := by
                refine up_ind fun e he ih3 M'' hf2 hm2 => ?_
                refine atX10_parted ?_
                have hn2 : nwM M'' 54 0 D := frS_nw hf2 (by omega) hn
                refine And.intro (fun h => ?_) (fun h => ?_)
                · rw [nw hn2 (by omega)] at h
                  have : e = D 5 := by have := nle_use h; omega
                  subst this
                  have := ih (by omega) M'' hf2 hm2
                  rw [← nI_1 t] at this
                  exact this
                · rw [nw hn2 (by omega)] at h
                  have hen := nlt_use h
                  obtain ⟨g1, g2, g3⟩ := b8 e hen
                  have e1 : M''.1 54 0 (53 + e) = nI (D (53 + e)) := nw hn2 (by omega)
                  have e2 : M''.1 54 0 (61 + e) = nI (D (61 + e)) := nw hn2 (by omega)
                  have e3 : M''.1 54 0 (69 + e) = nI (D (69 + e)) := nw hn2 (by omega)
                  have e4 : M''.1 54 0 (46 + k) = nI (D (46 + k)) := nw hn2 (by omega)
                  have ea := hm2 (am (FF D (D (46 + k)) j t) j) ha
                  rw [if_pos rfl] at ea
                  have stp : ∀ v : Int32, v = nI (if D (53 + e) = D (46 + k) ∧ D (61 + e) = t then 2 * D (69 + e) else 0) → ab_At miX10_parted (d + 2) 176 [some (vr 49 0), some (vi (nI k)), some (vi (nI j)), none, some (vi (nI t)), some (vi (nI (am (FF D (D (46 + k)) j t) j))), some (vi (nI e + nI 1))] [] (ab_sI M'' 66 0 (am (FF D (D (46 + k)) j t) j) (M''.1 66 0 (am (FF D (D (46 + k)) j t) j) + v)) (fun r M => K (r.map ab_nr) M) := by
                    intro v hv
                    have := ih3 hen (ab_sI M'' 66 0 (am (FF D (D (46 + k)) j t) j) (M''.1 66 0 (am (FF D (D (46 + k)) j t) j) + v)) (frS_sI hf2 (by omega) (by omega)) (fun i hi => by
                      by_cases z : i = am (FF D (D (46 + k)) j t) j
                      · rw [if_pos z, z, sI_eq, ea, hv, nI_add, Nat.add_assoc]
                        rfl
                      · rw [if_neg z, sI_k z, hm2 i hi, if_neg z])
                    rw [← nI_1 e] at this
                    exact this
                  refine ix_i (am (FF D (D (46 + k)) j t) j) rfl (show _ < 9 by omega) ?_
                  refine ix_i (53 + e) (by simp only [nI_add]) (show _ < 78 by omega) ?_
                  refine ix_i (46 + k) (by simp only [nI_add]) (show _ < 78 by omega) ?_
                  refine And.intro (fun w => ?_) (fun w => ?_)
                  · rw [e1, e4] at w
                    refine ix_i (am (FF D (D (46 + k)) j t) j) rfl (show _ < 9 by omega) ?_
                    exact stp (nI 0) (by rw [if_neg (fun z => nne_use w z.1)])
                  · rw [e1, e4] at w
                    refine ix_i (61 + e) (by simp only [nI_add]) (show _ < 78 by omega) ?_
                    refine And.intro (fun w2 => ?_) (fun w2 => ?_)
                    · rw [e2] at w2
                      refine ix_i (am (FF D (D (46 + k)) j t) j) rfl (show _ < 9 by omega) ?_
                      exact stp (nI 0) (by rw [if_neg (fun z => nne_use w2 z.2)])
                    · rw [e2] at w2
                      refine ix_i (69 + e) (by simp only [nI_add]) (show _ < 78 by omega) ?_
                      refine ix_i (am (FF D (D (46 + k)) j t) j) rfl (show _ < 9 by omega) ?_
                      exact stp _ (by rw [if_pos ⟨neq_use w, neq_use w2⟩, e3, pk_mul])
              exact adds 0 (Nat.zero_le _) M' hf (fun i hi => by
                rw [hm i hi]
                split
                · exact congrArg nI (Nat.add_zero _).symm
                · rfl)
            · rw [ek1] at h2
              have h2 := neq_use h2
              subst h2
              refine ix_i (am (FF D (D (46 + k)) j (D (46 + k + 1))) j) rfl (show _ < 9 by omega) ?_
              refine ix_i (46 + k) (by simp only [nI_add]) (show _ < 78 by omega) ?_
              have := hK M' hf
              rw [← nI_add, ← hm _ ha] at this
              refine m_isWindy_e ek hn' b6 bk (fun w => ?_) (fun w => ?_)
              · rw [wy_1 w] at this
                exact this
              · rw [wy_0 w] at this
                exact this
          · have hjn := nlt_use h
            have ha2 := am_lt (F := FF D (D (46 + k)) n t) (n := j) (by omega)
            have l1 := fl t j (by omega)
            have l2 := fl t (am (FF D (D (46 + k)) n t) j) (by omega)
            have := ih2 hjn (by omega)
            rw [← nI_1 j, am] at this
            refine ix_i j rfl (show j < 9 by omega) ?_
            refine ix_i (am (FF D (D (46 + k)) n t) j) rfl (show _ < 9 by omega) ?_
            refine And.intro (fun q => ?_) (fun q => ?_)
            · rw [hm j hjn, hm _ (by omega)] at q
              have q := nle_use q
              rw [if_neg (by omega)] at this
              exact this
            · rw [hm j hjn, hm _ (by omega)] at q
              rw [if_pos (nlt_use q)] at this
              exact this
        have := inner 1 n1 (Nat.le_refl _)
        rw [show am (FF D (D (46 + k)) n t) 1 = 0 by simp [am]] at this
        exact this
    have first : ∀ j, j ≤ 9 → ∀ M', frS 66 66 M M' → (∀ i, i < j → M'.1 66 0 i = nI 0) → ab_At miX10_parted (d + 2) 43 [some (vr 49 0), some (vi (nI k)), some (vi (nI n)), none, some (vi (nI j))] [] M' (fun r M => K (r.map ab_nr) M) := by
      refine up_ind fun j hj ih M' hf hm => ?_
      refine atX10_parted ?_
      refine And.intro (fun h => ?_) (fun h => ?_)
      · have : j = 9 := by have := nle_use h; omega
        subst this
        exact second 0 (Nat.zero_le _) M' hf (fun i hi => hm i (by omega))
      · have hjn := nlt_use h
        refine ix_i j rfl (show j < 9 by omega) ?_
        have := ih hjn (ab_sI M' 66 0 j (nI 0)) (frS_sI hf (by omega) (by omega)) (fun i hi => by
          by_cases e : i = j
          · subst e; exact sI_eq
          · rw [sI_k e]; exact hm i (by omega))
        rw [← nI_1 j] at this
        exact this
    exact first 0 (Nat.zero_le _) M frS_refl (fun i hi => absurd hi (by omega))
  · have q : nI k = nI (D 4 - 1) := by rw [← pk_sub (by omega), ← nw hn (show 4 < 78 by omega)]; exact q
    have q := neq_use q
    have hk1 : ¬ k + 1 < D 4 := by omega
    rw [if_neg hk1] at hK
    exact hK M frS_refl
theorem op_parted {x y : Int32} (hR : Rel M) : OpI (d + 3) 137 247 [vi x, vi y] M := by
  obtain ⟨D, hw, hw2, hw3, hl, hc, hn, hk⟩ := Rel_D hR
  have hb := bnd_of hw
  have hb4 := hb.2.1
  by_cases hy : ∃ n, 1 ≤ n ∧ n ≤ 9 ∧ y = nI n
  · obtain ⟨n, n1, n9, rfl⟩ := hy
    refine ab_Call_nr (caX9_parted rfl (atX9_parted ?_))
    refine And.intro (fun q => absurd (nlt_use q) (by omega)) (fun _ => And.intro (fun _ => ?_) (fun q => absurd (nlt_use q) (by omega)))
    rcases k_cases x (n := D 4) (by omega) with q | ⟨q, h4⟩ | ⟨q, h4⟩ | ⟨k, hk4, rfl⟩
    · refine c_ra_neg q ?_
      refine ab_Call_nr (caX10_parted rfl (atX10_parted (c_in1 (lo := 1) (hi := 9) rfl rfl n1 n9 (by omega) (m_rf_neg q ?_))))
      exact ⟨⟨_, rfl, rfl⟩, hR⟩
    · refine c_ra_no q hc h4 ?_
      refine ab_Call_nr (caX10_parted rfl (atX10_parted (c_in1 (lo := 1) (hi := 9) rfl rfl n1 n9 (by omega) (m_rf_no q hn h4 ?_))))
      exact ⟨⟨_, rfl, rfl⟩, hR⟩
    · refine c_ra_be q hc hb h4 ?_
      refine ab_Call_nr (caX10_parted rfl (atX10_parted (c_in1 (lo := 1) (hi := 9) rfl rfl n1 n9 (by omega) (m_rf_be q (D := D) (fun k hk => hn k hk) hb h4 ?_))))
      exact ⟨⟨_, rfl, rfl⟩, Rel_rf 2 hR⟩
    · refine c_ra hc hb hk4 ?_
      refine c_minutesParted hc hw hk4 n1 n9 (fun M1 f1 => ?_)
      have f1' := frA_S f1 (by omega)
      refine m_parted (frA_nw f1' (by omega) (by omega) hn) hw hk4 n1 n9 (fun M3 f3 => ?_)
      exact ⟨⟨_, rfl, rfl⟩, Rel_frA (Rel_frA hR f1') (frA_S f3 (by omega))⟩
  · have hm : ab_Call (d + 3) 247 [vr 49 0, vi x, vi y] M (fun r2 M2 => (∃ v, some (vi (-1)) = some (vi v) ∧ r2 = some (vi v)) ∧ Rel M2) := by
      refine ab_Call_nr (caX10_parted rfl (atX10_parted ?_))
      refine c_in (a := nI 1) (b := nI 9) rfl rfl (fun q1 q2 => ?_) (fun _ => ?_)
      · obtain ⟨j, hj, rfl⟩ := i_of_ge (i_le_trans (by decide) q1)
        exact absurd ⟨j, nle_use q1, nle_use q2, rfl⟩ hy
      · exact ⟨⟨_, rfl, rfl⟩, hR⟩
    refine ab_Call_nr (caX9_parted rfl (atX9_parted ?_))
    refine And.intro (fun _ => hm) (fun q => And.intro (fun q2 => ?_) (fun _ => hm))
    obtain ⟨j, hj, rfl⟩ := i_of_ge (i_le_trans (by decide) q)
    exact absurd ⟨j, nle_use q, nle_use q2, rfl⟩ hy
end Parted2
