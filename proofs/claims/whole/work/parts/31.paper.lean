/-! ===== paper, empty ===== -/
/-- paper for the first n false ends that are at a place -/
def pa (D : Nat → Nat) (p : Nat) (n : Nat) : Nat := sm (fun e => if D (53 + e) = p then D (69 + e) else 0) n
theorem pa_le {D : Nat → Nat} {p : Nat} (hb : bnd D) : pa D p (D 5) ≤ 40 := by
  have h : pa D p (D 5) ≤ D 5 * 5 := sm_le (fun e he => by split; exact (hb.2.2.2.2.2 e he).2.2; omega)
  have := hb.2.2.1
  omega
section Paper
variable {d c l : Nat} {M : ab_M} {K : ab_K} {D : Nat → Nat}
theorem c_lengthAt {k : Nat} (hc : crC M c D) (hb : bnd D) (hk : k < D 4) (hK : K (some (vi (nI (pa D (D (46 + k)) (D 5))))) M) : ab_Call d 34 [vr 14 c, vi (nI k)] M K := by
  refine caX1_lengthAt rfl (atX1_lengthAt ?_)
  obtain ⟨b3, b4, b5, b6, b7, b8⟩ := hb
  have hbk := b7 k hk
  have ek := hc.2.2.2.2.1 k hk
  have key : ∀ j, j ≤ D 5 → ab_At miX1_lengthAt d 4 [some (vr 14 c), some (vi (nI k)), some (vi (nI (pa D (D (46 + k)) j))), some (vi (nI j))] [] M K := by
    refine up_ind fun j hj ih => ?_
    refine atX1_lengthAt ?_
    refine And.intro (fun h => ?_) (fun h => ?_)
    · rw [hc.2.2.1] at h
      have : j = D 5 := by have := nle_use h; omega
      subst this
      exact hK
    · rw [hc.2.2.1] at h
      have hjn := nlt_use h
      obtain ⟨e1, e2, e3⟩ := hc.2.2.2.2.2 j hjn
      obtain ⟨g1, g2, g3⟩ := b8 j hjn
      have := ih hjn
      refine ix_i j rfl (show j < 8 by omega) (ix_i k rfl (show k < 7 by omega) ?_)
      refine And.intro (fun q => ?_) (fun q => ?_)
      · rw [e1, ek] at q
        rw [← nI_1, show pa D (D (46 + k)) (j + 1) = pa D (D (46 + k)) j + 0 by show _ + (if D (53 + j) = D (46 + k) then D (69 + j) else 0) = _; rw [if_neg (nne_use q)]; rfl, ← nI_add] at this
        exact this
      · rw [e1, ek] at q
        refine ix_i j rfl (show j < 8 by omega) ?_
        rw [← nI_1, show pa D (D (46 + k)) (j + 1) = pa D (D (46 + k)) j + D (69 + j) by show _ + (if D (53 + j) = D (46 + k) then D (69 + j) else 0) = _; rw [if_pos (neq_use q)]; rfl, ← nI_add, ← e3] at this
        exact this
  exact key 0 (Nat.zero_le _)
theorem m_paperAt {p : Nat} (hn : nwM M 54 0 D) (hb : bnd D) (hp : p < 7) (hK : K (some (vi (nI (pa D p (D 5))))) M) : ab_Call d 215 [vr 49 0, vi (nI p)] M K := by
  refine caX10_paperAt rfl (atX10_paperAt ?_)
  obtain ⟨b3, b4, b5, b6, b7, b8⟩ := hb
  have key : ∀ j, j ≤ D 5 → ab_At miX10_paperAt d 4 [some (vr 49 0), some (vi (nI p)), some (vi (nI (pa D p j))), some (vi (nI j))] [] M K := by
    refine up_ind fun j hj ih => ?_
    refine atX10_paperAt ?_
    refine And.intro (fun h => ?_) (fun h => ?_)
    · rw [nw hn (by omega)] at h
      have : j = D 5 := by have := nle_use h; omega
      subst this
      exact hK
    · rw [nw hn (by omega)] at h
      have hjn := nlt_use h
      have e1 : M.1 54 0 (53 + j) = nI (D (53 + j)) := nw hn (by omega)
      have e3 : M.1 54 0 (69 + j) = nI (D (69 + j)) := nw hn (by omega)
      obtain ⟨g1, g2, g3⟩ := b8 j hjn
      have := ih hjn
      refine ix_i (53 + j) (by simp only [nI_add]) (show _ < 78 by omega) ?_
      refine And.intro (fun q => ?_) (fun q => ?_)
      · rw [e1] at q
        rw [← nI_1, show pa D p (j + 1) = pa D p j + 0 by show _ + (if D (53 + j) = p then D (69 + j) else 0) = _; rw [if_neg (nne_use q)]; rfl, ← nI_add] at this
        exact this
      · rw [e1] at q
        refine ix_i (69 + j) (by simp only [nI_add]) (show _ < 78 by omega) ?_
        rw [← nI_1, show pa D p (j + 1) = pa D p j + D (69 + j) by show _ + (if D (53 + j) = p then D (69 + j) else 0) = _; rw [if_pos (neq_use q)]; rfl, ← nI_add, ← e3] at this
        exact this
  exact key 0 (Nat.zero_le _)
/-- paper up to a place of the trail -/
def pu (D : Nat → Nat) (k : Nat) : Nat := sm (fun j => pa D (D (46 + j)) (D 5) + sg D j) k
theorem pu_le {D : Nat → Nat} (hw : wf D) (k : Nat) : pu D k ≤ k * 49 := sm_le (fun j _ => by have := pa_le (p := D (46 + j)) (bnd_of hw); have := sg_le hw.1 j; omega)
/-- a false end's paper is found at its place -/
theorem sm_one {f : Nat → Nat} {a : Nat} : ∀ {n : Nat}, a < n → (∀ k, k < n → k ≠ a → f k = 0) → sm f n = f a
  | 0, h, _ => by omega
  | n + 1, h, h2 => by
    rw [sm]
    by_cases e : a = n
    · subst e
      rw [sm_zero (fun k hk => h2 k (by omega) (by omega)), Nat.zero_add]
    · rw [sm_one (n := n) (by omega) (fun k hk => h2 k (by omega)), h2 n (by omega) (fun q => e q.symm), Nat.add_zero]
theorem sm_swap (f : Nat → Nat → Nat) (n : Nat) : ∀ m, sm (fun k => sm (fun e => f k e) n) m = sm (fun e => sm (fun k => f k e) m) n
  | 0 => by
    exact (sm_zero (f := fun e => sm (fun k => f k e) 0) (fun k _ => rfl)).symm
  | m + 1 => by
    have : sm (fun e => sm (fun k => f k e) (m + 1)) n = sm (fun e => sm (fun k => f k e) m) n + sm (fun e => f m e) n := sm_add _ _ n
    rw [this, ← sm_swap f n m]
    rfl
theorem pu_all {D : Nat → Nat} (hw : wf D) (h4 : 0 < D 4) : pu D (D 4 - 1) = hrs D (D 4 - 1) + sm (fun e => D (69 + e)) (D 5) := by
  unfold pu hrs
  rw [sm_add, Nat.add_comm]
  congr 1
  unfold pa
  rw [sm_swap]
  refine sm_cong fun e he => ?_
  obtain ⟨k, k1, k2, -⟩ := hw.2.2.2.2.2.2.2.2.1 e he
  have := sm_one (f := fun k => if D (53 + e) = D (46 + k) then D (69 + e) else 0) (a := k) (n := D 4 - 1) (by omega) (fun j hj hjk => if_neg (fun q => by
    rcases Nat.lt_trichotomy j k with w | w | w
    · exact hw.2.2.2.2.2.2.1 j k w (by omega) (q.symm.trans k2)
    · exact hjk w
    · exact hw.2.2.2.2.2.2.1 k j w (by omega) (k2.symm.trans q)))
  rw [this, if_pos k2]
theorem m_paper (hn : nwM M 54 0 D) (hw : wf D) (hK : K (some (vi (nI (pu D (D 4 - 1))))) M) : ab_Call (d + 3) 216 [vr 49 0] M K := by
  refine ab_Call_nr (caX10_paper rfl (atX10_paper ?_))
  have hb := bnd_of hw
  have hb' := hb
  obtain ⟨b3, b4, b5, b6, b7, b8⟩ := hb'
  have key : ∀ j, j ≤ D 4 - 1 → ab_At miX10_paper (d + 3) 4 [some (vr 49 0), some (vi (nI (pu D j))), some (vi (nI j))] [] M (fun r M => K (r.map ab_nr) M) := by
    refine up_ind fun j hj ih => ?_
    refine atX10_paper ?_
    refine And.intro (fun h => ?_) (fun h => ?_)
    · rw [nw hn (by omega), nI_sub1 (by omega) (by omega)] at h
      have : j = D 4 - 1 := by omega
      subst this
      exact hK
    · rw [nw hn (by omega), nI_sub1_lt (by omega) (by omega)] at h
      refine ix_i (46 + j) (by simp only [nI_add]) (show _ < 78 by omega) ?_
      rw [show M.1 54 0 (46 + j) = nI (D (46 + j)) from nw hn (by omega)]
      refine m_paperAt hn hb (b7 j (by omega)) ?_
      refine m_stretch hn hw h ?_
      have := ih (by omega)
      rw [← nI_1, show pu D (j + 1) = pu D j + (pa D (D (46 + j)) (D 5) + sg D j) from rfl, ← nI_add, ← nI_add] at this
      exact this
  exact key 0 (Nat.zero_le _)
theorem c_paperFor (hl : ldC M l D) (hc : crC M c D) (hw : wf D) (hK : K (some (vi (nI (pu D (D 4 - 1))))) M) : ab_Call (d + 2) 40 [vr 14 c, vr 9 l] M K := by
  refine caX1_paperFor rfl (atX1_paperFor ?_)
  have hb := bnd_of hw
  have hb' := hb
  obtain ⟨b3, b4, b5, b6, b7, b8⟩ := hb'
  have key : ∀ s j, j ≤ D 5 → s + sm (fun e => D (69 + e)) (D 5) = pu D (D 4 - 1) → ab_At miX1_paperFor (d + 2) 12 [some (vr 14 c), none, some (vi (nI (s + sm (fun e => D (69 + e)) j))), some (vi (nI j))] [] M K := by
    intro s
    refine up_ind fun j hj ih hs => ?_
    refine atX1_paperFor ?_
    refine And.intro (fun h => ?_) (fun h => ?_)
    · rw [hc.2.2.1] at h
      have : j = D 5 := by have := nle_use h; omega
      subst this
      rw [hs]
      exact hK
    · rw [hc.2.2.1] at h
      have hjn := nlt_use h
      obtain ⟨e1, e2, e3⟩ := hc.2.2.2.2.2 j hjn
      refine ix_i j rfl (show j < 8 by omega) ?_
      have := ih hjn hs
      rw [← nI_1, show s + sm (fun e => D (69 + e)) (j + 1) = s + sm (fun e => D (69 + e)) j + D (69 + j) from (Nat.add_assoc _ _ _).symm, ← nI_add, ← e3] at this
      exact this
  rcases Nat.eq_zero_or_pos (D 4) with h4 | h4
  · refine caX1_last rfl (atX1_last ?_)
    refine caX1_haresAt rfl (atX1_haresAt ?_)
    refine atX1_haresAt ?_
    have e : M.1 14 c 1 - nI 1 = nI 0 - nI 1 := by rw [hc.2.1, h4]
    refine And.intro (fun _ => ?_) (fun q => absurd q (by rw [e]; decide))
    have h5 : D 5 = 0 := hw.2.2.2.2.1 h4
    have := key 0 0 (Nat.zero_le _) (by rw [h5, h4]; rfl)
    exact this
  · refine c_last hc h4 ?_
    refine c_haresAt hl hc hb (Or.inr (by omega)) ?_
    have := key (hrs D (D 4 - 1)) 0 (Nat.zero_le _) (pu_all hw h4).symm
    exact this
theorem op_paper (hR : Rel M) : OpI (d + 4) 121 216 [] M := by
  obtain ⟨D, hw, hw2, hw3, hl, hc, hn, hk⟩ := Rel_D hR
  refine ab_Call_nr (caX9_paper rfl (atX9_paper ?_))
  refine c_paperFor hl hc hw ?_
  refine m_paper hn hw ?_
  exact ⟨⟨_, rfl, rfl⟩, hR⟩
/-- where the sack is empty: the first place behind which it doesn't last -/
theorem c_emptyAt {v : Nat} (hl : ldC M l D) (hc : crC M c D) (hw : wf D) (hv : v < 100) (h4 : 0 < D 4) (h1 : ∀ k, k + 1 < D 4 → v < pu D (k + 1) → (∀ j, j ≤ k → pu D j ≤ v) → K (some (vi (nI (D (46 + k))))) M) (h0 : pu D (D 4 - 1) ≤ v → K (some (.inl (-9))) M) : ab_Call (d + 1) 41 [vr 14 c, vr 9 l, vi (nI v)] M K := by
  refine caX1_emptyAt rfl (atX1_emptyAt ?_)
  have hb := bnd_of hw
  have hb' := hb
  obtain ⟨b3, b4, b5, b6, b7, b8⟩ := hb'
  have key : ∀ j, j ≤ D 4 - 1 → (∀ i, i ≤ j → pu D i ≤ v) → ab_At miX1_emptyAt (d + 1) 5 [some (vr 14 c), some (vr 9 l), none, some (vi (nI (v - pu D j))), some (vi (nI j))] [] M K := by
    refine up_ind fun j hj ih hle => ?_
    refine atX1_emptyAt ?_
    refine c_last hc h4 ?_
    refine And.intro (fun h => ?_) (fun h => ?_)
    · have : j = D 4 - 1 := by have := nle_use h; omega
      subst this
      exact h0 (hle _ (Nat.le_refl _))
    · have hjn := nlt_use h
      refine c_lengthAt hc hb (by omega) ?_
      refine c_nextPath hl hc hb (by omega) ?_
      have hpj := hle j (Nat.le_refl _)
      have e : nI (v - pu D j) - (nI (pa D (D (46 + j)) (D 5)) + nI (sg D j)) = nI (v - pu D j) - nI (pa D (D (46 + j)) (D 5) + sg D j) := by rw [nI_add]
      have es : pu D (j + 1) = pu D j + (pa D (D (46 + j)) (D 5) + sg D j) := rfl
      have hpa := pa_le (p := D (46 + j)) hb
      have hsg := sg_le hw.1 j
      refine And.intro (fun q => ?_) (fun q => ?_)
      · rw [e] at q
        have hle2 : pu D (j + 1) ≤ v := by
          rcases Nat.lt_or_ge v (pu D (j + 1)) with w | w
          · exact absurd q (i_not_le (pk_sneg (by omega) (by omega)))
          · exact w
        have := ih (by omega) (fun i hi => by rcases Nat.lt_or_ge i (j + 1) with w | w; exact hle i (by omega); rw [show i = j + 1 by omega]; exact hle2)
        rw [← nI_1, show v - pu D (j + 1) = v - pu D j - (pa D (D (46 + j)) (D 5) + sg D j) by omega, ← pk_sub (by omega), ← e] at this
        exact this
      · rw [e] at q
        refine ix_i j rfl (show j < 7 by omega) ?_
        have hlt : v < pu D (j + 1) := by
          rcases Nat.lt_or_ge v (pu D (j + 1)) with w | w
          · exact w
          · exact absurd q (by rw [pk_sub (by omega)]; exact nI_pos (by omega))
        have := h1 j (by omega) hlt hle
        rw [← hc.2.2.2.2.1 j (by omega)] at this
        exact this
  have := key 0 (Nat.zero_le _) (fun i hi => by rw [show i = 0 by omega]; exact Nat.zero_le _)
  exact this
theorem M_empty {v : Nat} (hn : nwM M 54 0 D) (hw : wf D) (hv : v < 100) (h4 : 0 < D 4) (h1 : ∀ k, k + 1 < D 4 → v < pu D (k + 1) → (∀ j, j ≤ k → pu D j ≤ v) → K (some (vi (nI (D (46 + k))))) M) (h0 : pu D (D 4 - 1) ≤ v → K (some (vi (-9))) M) : ab_Call (d + 3) 217 [vr 49 0, vi (nI v)] M K := by
  refine ab_Call_nr (caX10_empty rfl (atX10_empty ?_))
  have hb := bnd_of hw
  have hb' := hb
  obtain ⟨b3, b4, b5, b6, b7, b8⟩ := hb'
  refine c_inP (n := 100) rfl rfl hv (by omega) ?_
  refine m_hasTrail1 hn h4 b4 ?_
  have key : ∀ j, j ≤ D 4 - 1 → (∀ i, i ≤ j → pu D i ≤ v) → ab_At miX10_empty (d + 3) 28 [some (vr 49 0), some (vi (nI v)), some (vi (nI (pu D j))), some (vi (nI j))] [] M (fun r M => K (r.map ab_nr) M) := by
    refine up_ind fun j hj ih hle => ?_
    refine atX10_empty ?_
    refine And.intro (fun h => ?_) (fun h => ?_)
    · rw [nw hn (by omega), nI_sub1 (by omega) (by omega)] at h
      have : j = D 4 - 1 := by omega
      subst this
      exact h0 (hle _ (Nat.le_refl _))
    · rw [nw hn (by omega), nI_sub1_lt (by omega) (by omega)] at h
      refine ix_i (46 + j) (by simp only [nI_add]) (show _ < 78 by omega) ?_
      rw [show M.1 54 0 (46 + j) = nI (D (46 + j)) from nw hn (by omega)]
      refine m_paperAt hn hb (b7 j (by omega)) ?_
      refine m_stretch hn hw h ?_
      have e : nI (pu D j) + (nI (pa D (D (46 + j)) (D 5)) + nI (sg D j)) = nI (pu D (j + 1)) := by rw [nI_add, nI_add]; rfl
      have hpu := pu_le hw (j + 1)
      refine And.intro (fun q => ?_) (fun q => ?_)
      · rw [e] at q
        have hle2 : pu D (j + 1) ≤ v := nle_use q
        have := ih (by omega) (fun i hi => by rcases Nat.lt_or_ge i (j + 1) with w | w; exact hle i (by omega); rw [show i = j + 1 by omega]; exact hle2)
        rw [← nI_1, ← e] at this
        exact this
      · rw [e] at q
        have hlt : v < pu D (j + 1) := nlt_use q
        refine ix_i (46 + j) (by simp only [nI_add]) (show _ < 78 by omega) ?_
        have := h1 j (by omega) hlt hle
        rw [show nI (D (46 + j)) = M.1 54 0 (46 + j) from (nw hn (by omega)).symm] at this
        exact this
  exact key 0 (Nat.zero_le _) (fun i hi => by rw [show i = 0 by omega]; exact Nat.zero_le _)
theorem op_empty {x : Int32} (hR : Rel M) : OpI (d + 3) 122 217 [vi x] M := by
  obtain ⟨D, hw, hw2, hw3, hl, hc, hn, hk⟩ := Rel_D hR
  have hb := bnd_of hw
  rcases ix_cases x (n := 100) (by omega) with ⟨v, hv, rfl⟩ | hno
  · refine ab_Call_nr (caX9_empty rfl (atX9_empty ?_))
    refine And.intro (fun q => absurd q (nI_pos (by omega))) (fun _ => And.intro (fun _ => ?_) (fun q => absurd (nlt_use q) (by omega)))
    rcases Nat.eq_zero_or_pos (D 4) with h4 | h4
    · refine c_isLaid0 hc h4 ?_
      refine ab_Call_nr (caX10_empty rfl (atX10_empty (c_inP (n := 100) rfl rfl hv (by omega) (m_hasTrail0 hn h4 ?_))))
      exact ⟨⟨_, rfl, rfl⟩, hR⟩
    · refine c_isLaid1 hc hb h4 ?_
      have mono : ∀ i j, i ≤ j → pu D i ≤ pu D j := by
        intro i j hij
        induction j with
        | zero => rw [show i = 0 by omega]; exact Nat.le_refl _
        | succ j ih =>
          rcases Nat.lt_or_ge i (j + 1) with w | w
          · exact Nat.le_trans (ih (by omega)) (Nat.le_add_right _ _)
          · rw [show i = j + 1 by omega]; exact Nat.le_refl _
      refine c_emptyAt hl hc hw hv h4 (fun k k1 k2 k3 => ?_) (fun hle => ?_)
      · refine M_empty hn hw hv h4 (fun j j1 j2 j3 => ?_) (fun hle => ?_)
        · have : j = k := by
            rcases Nat.lt_trichotomy j k with w | w | w
            · have := k3 (j + 1) (by omega); omega
            · exact w
            · have := j3 (k + 1) (by omega); omega
          subst this
          exact ⟨⟨_, rfl, rfl⟩, hR⟩
        · have := mono (k + 1) (D 4 - 1) (by omega)
          omega
      · refine M_empty hn hw hv h4 (fun j j1 j2 j3 => ?_) (fun _ => ⟨⟨_, rfl, rfl⟩, hR⟩)
        have := mono (j + 1) (D 4 - 1) (by omega)
        omega
  · have mb : ab_Call (d + 3) 217 [vr 49 0, vi x] M (fun r2 M2 => (∃ v, some (vi (-1)) = some (vi v) ∧ r2 = some (vi v)) ∧ Rel M2) := by
      refine ab_Call_nr (caX10_empty rfl (atX10_empty ?_))
      exact c_in0 (n := 100) rfl rfl (by omega) hno ⟨⟨_, rfl, rfl⟩, hR⟩
    refine ab_Call_nr (caX9_empty rfl (atX9_empty ?_))
    refine And.intro (fun _ => mb) (fun q => And.intro (fun q2 => ?_) (fun _ => mb))
    rcases ix_no (by omega) hno with w | w
    · exact absurd q (i_not_le w)
    · exact absurd q2 (fun q2 => i_lt_le (show nI 99 < nI 100 from nI_lt (by omega) (by omega)) (i_le_trans w q2))
end Paper
