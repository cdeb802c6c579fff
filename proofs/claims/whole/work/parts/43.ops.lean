/-! ===== across, ahead, caught, call ===== -/
/-- who comes first -/
def fst1 (c : Nat → Nat) (H f : Nat) : Prop := f < H ∧ ∀ j, j < H → j ≠ f → bef c f j = true
theorem fst1_u {c : Nat → Nat} {H f g : Nat} (h : fst1 c H f) (h2 : fst1 c H g) : f = g := by
  by_cases e : f = g
  · exact e
  · exact absurd (h.2 g h2.1 (fun q => e q.symm)) (bef_asym (h2.2 f h.1 e))
section ChaseOps2
variable {d : Nat} {M : ab_M} {K : ab_K} {D : Nat → Nat} {H : Nat} {kd : Nat → Nat}
theorem c_firstAt {k : Nat} {v : Int32} {c : Nat → Nat} (hv : v = nI k) (hH0 : 0 < H) (hH : H ≤ 4) (hk : k < 7) (h0 : M.1 21 0 0 = nI H) (hc : ∀ i, i < H → M.1 32 i k = nI (c i)) (hcl : ∀ i, c i < 1000) (hK : ∀ f, fst1 c H f → K (some (vi (nI f))) M) : ab_Call d 15 [vr 21 0, vi v] M K := by
  subst hv
  refine caX0_firstAt rfl (atX0_firstAt ?_)
  have key : ∀ j, j ≤ H → ∀ f, f < j → (∀ i, i < j → i ≠ f → bef c f i = true) → ab_At miX0_firstAt d 4 [some (vr 21 0), some (vi (nI k)), some (vi (nI f)), some (vi (nI j))] [] M K := by
    refine up_ind fun j hj ih f hf hm => ?_
    refine atX0_firstAt ?_
    refine And.intro (fun h => ?_) (fun h => ?_)
    · rw [h0] at h
      have : j = H := by have := nle_use h; omega
      subst this
      exact hK f ⟨hf, hm⟩
    · rw [h0] at h
      have hjn := nlt_use h
      have l1 := hcl j
      have l2 := hcl f
      refine ix_i j rfl (show j < 4 by omega) ?_
      refine ix_i k rfl (show k < 7 by omega) ?_
      refine ix_i f rfl (show f < 4 by omega) ?_
      refine ix_i k rfl (show k < 7 by omega) ?_
      refine And.intro (fun q => ?_) (fun q => ?_)
      · rw [hc j hjn, hc f (by omega)] at q
        have q := nle_use q
        have := ih hjn f (by omega) (fun i hi w => by
          by_cases e : i = j
          · subst e; rw [bef_iff]; omega
          · exact hm i (by omega) w)
        rw [← nI_1] at this
        exact this
      · rw [hc j hjn, hc f (by omega)] at q
        have q := nlt_use q
        have := ih hjn j (by omega) (fun i hi w => by
          rw [bef_iff]
          by_cases e : i = f
          · subst e; omega
          · have := hm i (by omega) e
            rw [bef_iff] at this
            omega)
        rw [← nI_1] at this
        exact this
  exact key 1 (by omega) 0 (by omega) (fun i hi w => by omega)
theorem m_firstAt {k : Nat} {v : Int32} (hv : v = nI k) (hn : nwM M 54 0 D) (hw : wf D) (hO : moO D M) (hk : k < D 4) (hH : 0 < D 1) (hK : ∀ f, fst1 (cmv D (D 1) (kds D) k) (D 1) f → K (some (vi (nI f))) M) : ab_Call d 225 [vr 49 0, vi v] M K := by
  subst hv
  refine caX10_firstAt rfl (atX10_firstAt ?_)
  have w1 : D 1 ≤ 4 := hw.1.2.1
  have hb4 := (bnd_of hw).2.1
  have cle : ∀ i, cmv D (D 1) (kds D) k i < 1000 := fun i => by have := cmv_le hw (H := D 1) (kd := kds D) (i := i) k; omega
  have key : ∀ j, j ≤ D 1 → ∀ f : Int32, ((f = -1 ∧ j = 0) ∨ ∃ y, y < j ∧ f = nI y ∧ ∀ i, i < j → i ≠ y → bef (cmv D (D 1) (kds D) k) y i = true) → ab_At miX10_firstAt d 4 [some (vr 49 0), some (vi (nI k)), some (vi f), some (vi (nI j))] [] M K := by
    refine up_ind fun j hj ih f hf => ?_
    refine atX10_firstAt ?_
    refine And.intro (fun h => ?_) (fun h => ?_)
    · rw [nw hn (by omega)] at h
      have : j = D 1 := by have := nle_use h; omega
      subst this
      rcases hf with ⟨-, z⟩ | ⟨y, y1, rfl, y2⟩
      · omega
      · exact hK y ⟨y1, y2⟩
    · rw [nw hn (by omega)] at h
      have hjn := nlt_use h
      have new : (∀ i, i < j → bef (cmv D (D 1) (kds D) k) j i = true) → ab_At miX10_firstAt d 4 [some (vr 49 0), some (vi (nI k)), some (vi (nI j)), some (vi (nI j + nI 1))] [] M K := by
        intro w
        have := ih hjn (nI j) (Or.inr ⟨j, by omega, rfl, fun i hi q => w i (by omega)⟩)
        rw [← nI_1] at this
        exact this
      refine And.intro (fun q => ?_) (fun q => ?_)
      · rcases hf with ⟨-, z⟩ | ⟨y, y1, y3, y2⟩
        · exact new (fun i hi => by omega)
        · exact absurd q (neg_no y3 (by omega))
      · rcases hf with ⟨z, -⟩ | ⟨y, y1, y3, y2⟩
        · exact absurd (neg_m1 z) (fun w => i_lt_le w q)
        · have ej := hO.1 j hjn k hk
          have ey := hO.1 y (by omega) k hk
          have l1 := cle j
          have l2 := cle y
          refine ix_i (7 * j + k) (by simp only [pk_mul, nI_add]) (show _ < 28 by omega) ?_
          refine ix_i (7 * y + k) (by rw [y3]; simp only [pk_mul, nI_add]) (show _ < 28 by omega) ?_
          refine And.intro (fun q2 => ?_) (fun q2 => ?_)
          · rw [ej, ey] at q2
            have q2 := nle_use q2
            have := ih hjn f (Or.inr ⟨y, by omega, y3, fun i hi w => by
              by_cases e : i = j
              · subst e; rw [bef_iff]; omega
              · exact y2 i (by omega) w⟩)
            rw [← nI_1] at this
            exact this
          · rw [ej, ey] at q2
            have q2 := nlt_use q2
            refine new (fun i hi => ?_)
            rw [bef_iff]
            by_cases e : i = y
            · subst e; omega
            · have := y2 i hi e
              rw [bef_iff] at this
              omega
  exact key 0 (Nat.zero_le _) (-1) (Or.inl ⟨rfl, rfl⟩)
/-- the first one's minutes at the end -/
theorem c_firstMinute (hw : wf D) (hO : chO D H kd M) (h4 : 0 < D 4) (hH0 : 0 < H) (hH : H ≤ 4) (hK : ∀ f, fst1 (cmv D H kd (D 4 - 1)) H f → K (some (vi (nI (cmv D H kd (D 4 - 1) f)))) M) : ab_Call (d + 1) 16 [vr 21 0] M K := by
  refine caX0_firstMinute rfl (atX0_firstMinute ?_)
  have hb4 := (bnd_of hw).2.1
  have e : M.1 21 0 1 - nI 1 = nI (D 4 - 1) := by rw [hO.1.2.1, pk_sub (by omega)]
  refine c_firstAt e hH0 hH (by omega) hO.1.1.1 (fun i hi => hO.2.2.1 i hi (D 4 - 1) (by omega) (Nat.le_refl _)) (fun i => by have := cmv_le hw (H := H) (kd := kd) (i := i) (D 4 - 1); omega) (fun f hf => ?_)
  have hf1 := hf.1
  refine ix_i f rfl (show f < 4 by omega) ?_
  refine ix_i (D 4 - 1) e (show _ < 7 by omega) ?_
  have := hK f hf
  rw [← hO.2.2.1 f hf.1 (D 4 - 1) (by omega) (Nat.le_refl _)] at this
  exact this
theorem c_lead (hw : wf D) (hO : chO D H kd M) (h4 : 0 < D 4) (hH0 : 0 < H) (hH : H ≤ 4) (hK : ∀ f, fst1 (cmv D H kd (D 4 - 1)) H f → K (some (vi (nI (cmv D H kd (D 4 - 1) f) - nI (hrs D (D 4 - 1))))) M) : ab_Call (d + 2) 17 [vr 21 0] M K := by
  refine caX0_lead rfl (atX0_lead ?_)
  have hb4 := (bnd_of hw).2.1
  have e : M.1 21 0 1 - nI 1 = nI (D 4 - 1) := by rw [hO.1.2.1, pk_sub (by omega)]
  refine c_firstMinute hw hO h4 hH0 hH (fun f hf => ?_)
  refine ix_i (D 4 - 1) e (show _ < 7 by omega) ?_
  have := hK f hf
  rw [← hO.2.1 (D 4 - 1) (by omega) (Nat.le_refl _)] at this
  exact this
theorem m_haresAt_e {k : Nat} {v : Int32} (hv : v = nI k) (hn : nwM M 54 0 D) (hw : wf D) (hk : k = 0 ∨ k < D 4) (hK : K (some (vi (nI (hrs D k)))) M) : ab_Call (d + 3) 220 [vr 49 0, vi v] M K := by
  subst hv
  exact m_haresAt hn hw hk hK
theorem m_aheadNow (hn : nwM M 54 0 D) (hw : wf D) (hO : moO D M) (h4 : 0 < D 4) (hH : 0 < D 1) (hK : ∀ f, fst1 (cmv D (D 1) (kds D) (D 4 - 1)) (D 1) f → K (some (vi (nI (cmv D (D 1) (kds D) (D 4 - 1) f) - nI (hrs D (D 4 - 1))))) M) : ab_Call (d + 4) 228 [vr 49 0] M K := by
  refine caX10_aheadNow rfl (atX10_aheadNow ?_)
  have hb4 := (bnd_of hw).2.1
  have e : M.1 54 0 4 - nI 1 = nI (D 4 - 1) := by rw [nw hn (by omega), pk_sub (by omega)]
  refine m_firstAt e hn hw hO (by omega) hH (fun f hf => ?_)
  refine m_inn hn hw hf.1 h4 hO ?_
  refine m_haresAt_e e hn hw (Or.inr (by omega)) ?_
  exact hK f hf
theorem op_ahead (hR : Rel M) : OpI (d + 6) 129 229 [] M := by
  obtain ⟨D, hw, hw2, hw3, hl, hc, hn, hk⟩ := Rel_D hR
  have hb := bnd_of hw
  have hb4 := hb.2.1
  have w1 : D 1 ≤ 4 := hw.1.2.1
  rcases Nat.eq_zero_or_pos (D 4) with h4 | h4
  · refine ab_Call_nr (caX9_ahead rfl (atX9_ahead (c_isLaid0 hc h4 ?_)))
    refine ab_Call_nr (caX10_ahead rfl (atX10_ahead (m_hasTrail0 hn h4 ?_)))
    exact ⟨⟨_, rfl, rfl⟩, hR⟩
  · refine ab_Call_nr (caX9_ahead rfl (atX9_ahead (c_isLaid1 hc hb h4 ?_)))
    refine And.intro (fun q => ?_) (fun q => ?_)
    · have q : ¬ nI (D 1) = nI 0 := by rw [← hl.2.1]; exact q
      have q := nne_use q
      refine c_pursue hl hc hw (fun M1 f1 h1 => ?_)
      have f1' := frA_S f1 (by omega)
      refine c_lead hw h1 h4 (by omega) w1 (fun f hf => ?_)
      refine caX9_tell rfl (atX9_tell ?_)
      generalize hv : nI (cmv D (D 1) (kds D) (D 4 - 1) f) - nI (hrs D (D 4 - 1)) = v
      have hn1 : nwM (ab_sI M1 0 0 14 v) 54 0 D := fun k hk => frA_nw f1' (by omega) (by omega) hn k hk
      refine ab_Call_nr (caX10_ahead rfl (atX10_ahead (m_hasTrail1 hn1 h4 hb4 ?_)))
      refine And.intro (fun _ => ?_) (fun q2 => absurd ((nw hn1 (show 1 < 78 by omega)).symm.trans q2) (nI_ne0 (by omega) (by omega)))
      refine m_runs hn1 hw (fun M3 f3 h3 => ?_)
      refine m_aheadNow (frS_nw f3 (by omega) hn1) hw h3 h4 (by omega) (fun g hg => ?_)
      refine caX10_tell rfl (atX10_tell ?_)
      rw [fst1_u hg hf, hv]
      exact ⟨⟨_, rfl, rfl⟩, Rel_told _ hR f1' (frA_S f3 (by omega))⟩
    · have q : nI (D 1) = nI 0 := by rw [← hl.2.1]; exact q
      refine ab_Call_nr (caX10_ahead rfl (atX10_ahead (m_hasTrail1 hn h4 hb4 ?_)))
      refine And.intro (fun q2 => absurd ((nw hn (show 1 < 78 by omega)).trans q) q2) (fun q2 => ?_)
      exact ⟨⟨_, rfl, rfl⟩, hR⟩
theorem c_caughtAt (hw : wf D) (hO : chO D H kd M) (hH : H ≤ 4) (h4 : 0 < D 4) (h1 : ∀ k, 1 ≤ k → k < D 4 → cgt D H kd k → (∀ j, 1 ≤ j → j < k → ¬ cgt D H kd j) → K (some (vi (nI k))) M) (h0 : (∀ j, 1 ≤ j → j < D 4 → ¬ cgt D H kd j) → K (some (vi (-9))) M) : ab_Call (d + 1) 14 [vr 21 0] M K := by
  refine ab_Call_nr (caX0_caughtAt rfl (atX0_caughtAt ?_))
  have hb4 := (bnd_of hw).2.1
  have key : ∀ k, k ≤ D 4 → 1 ≤ k → (∀ j, 1 ≤ j → j < k → ¬ cgt D H kd j) → ab_At miX0_caughtAt (d + 1) 2 [some (vr 21 0), some (vi (nI k))] [] M (fun r M => K (r.map ab_nr) M) := by
    refine up_ind fun k hk ih k1 hno => ?_
    refine atX0_caughtAt ?_
    refine And.intro (fun h => ?_) (fun h => ?_)
    · rw [hO.1.2.1] at h
      have : k = D 4 := by have := nle_use h; omega
      subst this
      exact h0 hno
    · rw [hO.1.2.1] at h
      have hkn := nlt_use h
      refine c_isCaughtAt rfl hO.1 hw hH hkn (hO.2.1 k hkn (by omega)) (fun i hi => hO.2.2.1 i hi k hkn (by omega)) (fun q => ?_) (fun q => ?_)
      · exact h1 k k1 hkn q hno
      · have := ih hkn (by omega) (fun j j1 j2 => by
          by_cases e : j = k
          · subst e
            rintro ⟨i, hi, w⟩
            have := q i hi
            omega
          · exact hno j j1 (by omega))
        rw [← nI_1] at this
        exact this
  exact key 1 (by omega) (by omega) (fun j a b => by omega)
theorem m_caughtAt (hn : nwM M 54 0 D) (hw : wf D) (hO : moO D M) (h4 : 0 < D 4) (h1 : ∀ k, 1 ≤ k → k < D 4 → cgt D (D 1) (kds D) k → (∀ j, 1 ≤ j → j < k → ¬ cgt D (D 1) (kds D) j) → K (some (vi (nI k))) M) (h0 : (∀ j, 1 ≤ j → j < D 4 → ¬ cgt D (D 1) (kds D) j) → K (some (vi (-9))) M) : ab_Call (d + 4) 226 [vr 49 0] M K := by
  refine ab_Call_nr (caX10_caughtAt rfl (atX10_caughtAt ?_))
  have hb4 := (bnd_of hw).2.1
  have w1 : D 1 ≤ 4 := hw.1.2.1
  have key : ∀ k, k ≤ D 4 → 1 ≤ k → (∀ j, 1 ≤ j → j < k → ¬ cgt D (D 1) (kds D) j) → ab_At miX10_caughtAt (d + 4) 2 [some (vr 49 0), some (vi (nI k))] [] M (fun r M => K (r.map ab_nr) M) := by
    refine up_ind fun k hk ih k1 hno => ?_
    refine atX10_caughtAt ?_
    refine And.intro (fun h => ?_) (fun h => ?_)
    · rw [nw hn (by omega)] at h
      have : k = D 4 := by have := nle_use h; omega
      subst this
      exact h0 hno
    · rw [nw hn (by omega)] at h
      have hkn := nlt_use h
      refine And.intro (fun q => ?_) (fun q => ?_)
      · rw [nw hn (by omega)] at q
        have q := nle_use q
        exact h0 (fun j j1 j2 => fun ⟨i, hi, _⟩ => by omega)
      · rw [nw hn (by omega)] at q
        have q := nlt_use q
        refine m_firstAt rfl hn hw hO hkn q (fun f hf => ?_)
        have hf1 := hf.1
        refine ix_i (7 * f + k) (by simp only [pk_mul, nI_add]) (show _ < 28 by omega) ?_
        refine m_haresAt hn hw (Or.inr hkn) ?_
        have ef := hO.1 f hf.1 k hkn
        have hc := cmv_le hw (H := D 1) (kd := kds D) (i := f) k
        have hh := hrs_le hw.1 k
        refine And.intro (fun q2 => ?_) (fun q2 => ?_)
        · rw [ef] at q2
          have q2 := nlt_use q2
          have := ih hkn (by omega) (fun j j1 j2 => by
            by_cases e : j = k
            · subst e
              rintro ⟨i, hi, w⟩
              by_cases e2 : i = f
              · subst e2; omega
              · have := hf.2 i hi e2
                rw [bef_iff] at this
                omega
            · exact hno j j1 (by omega))
          rw [← nI_1] at this
          exact this
        · rw [ef] at q2
          exact h1 k k1 hkn ⟨f, hf.1, nle_use q2⟩ hno
  exact key 1 (by omega) (by omega) (fun j a b => by omega)
end ChaseOps2
