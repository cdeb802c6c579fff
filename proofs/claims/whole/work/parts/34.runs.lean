/-! ===== the chase: the reference's runs ===== -/
section ChaseM2
variable {d : Nat} {M : ab_M} {K : ab_K} {D : Nat → Nat}
theorem m_loses {k kd : Nat} (hn : nwM M 54 0 D) (hb : bnd D) (hk : k < D 4) (hkd : kd ≤ 5) (hK : K (some (vi (nI (lo D kd k)))) M) : ab_Call (d + 2) 197 [vr 49 0, vi (nI kd), vi (nI k)] M K := by
  refine ab_Call_nr (caX10_loses rfl (atX10_loses ?_))
  have hb' := hb
  obtain ⟨b3, b4, b5, b6, b7, b8⟩ := hb'
  have ek : M.1 54 0 (46 + k) = nI (D (46 + k)) := nw hn (by omega)
  have hbk := b7 k hk
  refine m_isCheck hn hb hk (fun q => ?_) (fun q => ?_)
  · have q2 : k + 1 < D 4 := by unfold ck at q; simp at q; exact q.1
    refine And.intro (fun w => ?_) (fun w => ?_)
    · have w := nne_use w
      refine m_goes hn hb hk hkd ?_
      refine m_lasting hn hb rfl ?_
      have e : lo D kd k = sm (fun e => if gp D kd k e then 2 * D (69 + e) else 0) (D 5) + (if wy D k then 2 else 0) := by
        unfold lo los
        rw [if_pos q, if_neg w, Nat.add_comm]
        congr 1
        refine sm_cong fun e he => ?_
        simp [gp, w, q2]
      rw [e, ← nI_add] at hK
      refine ix_i (46 + k) (by simp only [nI_add]) (show _ < 78 by omega) ?_
      rw [ek]
      refine m_isWindy hn b6 hbk (fun r => ?_) (fun r => ?_)
      · rw [wy_1 r] at hK
        exact hK
      · rw [wy_0 r] at hK
        exact hK
    · have w := neq_use w
      have e : lo D kd k = 1 := by unfold lo; rw [if_pos q, if_pos w]
      rw [e] at hK
      exact hK
  · have e : lo D kd k = 0 := by unfold lo; rw [q]; rfl
    rw [e] at hK
    exact hK
theorem m_loses_e {k kd : Nat} {v : Int32} (hv : v = nI kd) (hn : nwM M 54 0 D) (hb : bnd D) (hk : k < D 4) (hkd : kd ≤ 5) (hK : K (some (vi (nI (lo D kd k)))) M) : ab_Call (d + 2) 197 [vr 49 0, vi v, vi (nI k)] M K := by
  subst hv
  exact m_loses hn hb hk hkd hK
theorem m_pace_e {kd m : Nat} {v : Int32} (hv : v = nI kd) (hk : kd ≤ 5) (hm : m ≤ 9) (hK : K (some (vi (nI (pce kd m)))) M) : ab_Call (d + 1) 191 [vi v, vi (nI m)] M K := by
  subst hv
  exact m_pace hk hm hK
/-- the kinds of a country's hounds -/
def kds (D : Nat → Nat) (i : Nat) : Nat := D (6 + i)
theorem m_leavesIt {i k x : Nat} {c : Nat → Nat} (hn : nwM M 54 0 D) (hw : wf D) (hi : i < D 1) (hk : k < D 4) (hci : c i < 1000) (hx : x < 2 ^ 31) (hcm : M.1 59 0 (7 * i + k) = nI (c i)) (hcal : cal D (D 1) (kds D) k c i = true ↔ slo (kds D i) = true ∧ ck D k = true ∧ x ≤ c i) (h1 : k + 1 < D 4 → K none (ab_sI (ab_sI (ab_sI M 61 0 (7 * i + k) (nI (b1 (cal D (D 1) (kds D) k c i)))) 60 0 (7 * i + k) (nI (lvv D (D 1) (kds D) k c i))) 59 0 (7 * i + k + 1) (nI (lvv D (D 1) (kds D) k c i + pce (kds D i) (sg D k))))) (h0 : ¬ k + 1 < D 4 → K none (ab_sI (ab_sI M 61 0 (7 * i + k) (nI (b1 (cal D (D 1) (kds D) k c i)))) 60 0 (7 * i + k) (nI (lvv D (D 1) (kds D) k c i)))) : ab_Call (d + 3) 198 [vr 49 0, vi (nI i), vi (nI k), vi (nI x)] M K := by
  refine caX10_leavesIt rfl (atX10_leavesIt ?_)
  have hb := bnd_of hw
  have hb' := hb
  obtain ⟨b3, b4, b5, b6, b7, b8⟩ := hb'
  have w1 : D 1 ≤ 4 := hw.1.2.1
  have e6 : M.1 54 0 (6 + i) = nI (kds D i) := nw hn (by omega)
  have hkd : kds D i ≤ 5 := hw.1.2.2.2.1 i hi
  have sp : nI 7 * nI i + nI k = nI (7 * i + k) := by simp only [pk_mul, nI_add]
  refine ix_i (6 + i) (by simp only [nI_add]) (show _ < 78 by omega) ?_
  rw [e6]
  refine m_isOf hkd (by omega) (fun q => ?_) (fun q => ?_)
  · have hs : slo (kds D i) = true := by unfold slo; simp; omega
    refine m_isCheck hn hb hk (fun q2 => ?_) (fun q2 => ?_)
    · refine ix_i (7 * i + k) sp (show _ < 28 by omega) ?_
      refine And.intro (fun q3 => ?_) (fun q3 => ?_)
      · rw [hcm] at q3
        have q3 := nlt_use q3
        refine ix_i (7 * i + k) sp (show _ < 28 by omega) ?_
        refine ix_i (7 * i + k) sp (show _ < 28 by omega) ?_
        have hc : ¬ cal D (D 1) (kds D) k c i = true := fun q0 => (by have := (hcal.mp q0).2.2; omega)
        have el : lvv D (D 1) (kds D) k c i = c i + lo D (kds D i) k := by unfold lvv; rw [if_neg hc]
        rw [b1_f (by simpa using hc), el, ← nI_add (a := c i), ← hcm] at h0
        rw [b1_f (by simpa using hc), el, ← nI_add (a := c i + lo D (kds D i) k), ← nI_add (a := c i), ← hcm] at h1
        refine ix_i (6 + i) (by simp only [nI_add]) (show _ < 78 by omega) ?_
        refine m_loses_e e6 (fun k hk => hn k hk) hb hk hkd ?_
        refine ix_i (7 * i + k) sp (show _ < 28 by omega) ?_
        refine And.intro (fun q9 => ?_) (fun q9 => ?_)
        · have q9 : nI (D 4) - nI 1 ≤ nI k := by rw [← nw hn (show 4 < 78 by omega)]; exact q9
          rw [nI_sub1 (by omega) (by omega)] at q9
          exact h0 (by omega)
        · have q9 : nI k < nI (D 4) - nI 1 := by rw [← nw hn (show 4 < 78 by omega)]; exact q9
          rw [nI_sub1_lt (by omega) (by omega)] at q9
          refine ix_i (7 * i + k) sp (show _ < 28 by omega) ?_
          refine ix_i (6 + i) (by simp only [nI_add]) (show _ < 78 by omega) ?_
          refine m_stretch (fun k hk => hn k hk) hw q9 ?_
          refine m_pace_e e6 hkd (sg_le hw.1 k) ?_
          refine ix_i (7 * i + k + 1) (by rw [sp, nI_add]) (show _ < 28 by omega) ?_
          rw [sI_eq (g := 60) (k := 7 * i + k)]
          exact h1 q9
      · rw [hcm] at q3
        have q3 := nle_use q3
        refine ix_i (7 * i + k) sp (show _ < 28 by omega) ?_
        refine ix_i (7 * i + k) sp (show _ < 28 by omega) ?_
        have hc : cal D (D 1) (kds D) k c i = true := hcal.mpr (⟨hs, q2, q3⟩)
        have el : lvv D (D 1) (kds D) k c i = c i + 0 := by unfold lvv; rw [if_pos hc]
        rw [b1_t hc, el, ← nI_add (a := c i), ← hcm] at h0
        rw [b1_t hc, el, ← nI_add (a := c i + 0), ← nI_add (a := c i), ← hcm] at h1
        refine ix_i (7 * i + k) sp (show _ < 28 by omega) ?_
        refine And.intro (fun q9 => ?_) (fun q9 => ?_)
        · have q9 : nI (D 4) - nI 1 ≤ nI k := by rw [← nw hn (show 4 < 78 by omega)]; exact q9
          rw [nI_sub1 (by omega) (by omega)] at q9
          exact h0 (by omega)
        · have q9 : nI k < nI (D 4) - nI 1 := by rw [← nw hn (show 4 < 78 by omega)]; exact q9
          rw [nI_sub1_lt (by omega) (by omega)] at q9
          refine ix_i (7 * i + k) sp (show _ < 28 by omega) ?_
          refine ix_i (6 + i) (by simp only [nI_add]) (show _ < 78 by omega) ?_
          refine m_stretch (fun k hk => hn k hk) hw q9 ?_
          refine m_pace_e e6 hkd (sg_le hw.1 k) ?_
          refine ix_i (7 * i + k + 1) (by rw [sp, nI_add]) (show _ < 28 by omega) ?_
          rw [sI_eq (g := 60) (k := 7 * i + k)]
          exact h1 q9
    · skip
      refine ix_i (7 * i + k) sp (show _ < 28 by omega) ?_
      refine ix_i (7 * i + k) sp (show _ < 28 by omega) ?_
      have hc : ¬ cal D (D 1) (kds D) k c i = true := fun q0 => (by have := (hcal.mp q0).2.1; rw [q2] at this; exact absurd this (by decide))
      have el : lvv D (D 1) (kds D) k c i = c i + lo D (kds D i) k := by unfold lvv; rw [if_neg hc]
      rw [b1_f (by simpa using hc), el, ← nI_add (a := c i), ← hcm] at h0
      rw [b1_f (by simpa using hc), el, ← nI_add (a := c i + lo D (kds D i) k), ← nI_add (a := c i), ← hcm] at h1
      refine ix_i (6 + i) (by simp only [nI_add]) (show _ < 78 by omega) ?_
      refine m_loses_e e6 (fun k hk => hn k hk) hb hk hkd ?_
      refine ix_i (7 * i + k) sp (show _ < 28 by omega) ?_
      refine And.intro (fun q9 => ?_) (fun q9 => ?_)
      · have q9 : nI (D 4) - nI 1 ≤ nI k := by rw [← nw hn (show 4 < 78 by omega)]; exact q9
        rw [nI_sub1 (by omega) (by omega)] at q9
        exact h0 (by omega)
      · have q9 : nI k < nI (D 4) - nI 1 := by rw [← nw hn (show 4 < 78 by omega)]; exact q9
        rw [nI_sub1_lt (by omega) (by omega)] at q9
        refine ix_i (7 * i + k) sp (show _ < 28 by omega) ?_
        refine ix_i (6 + i) (by simp only [nI_add]) (show _ < 78 by omega) ?_
        refine m_stretch (fun k hk => hn k hk) hw q9 ?_
        refine m_pace_e e6 hkd (sg_le hw.1 k) ?_
        refine ix_i (7 * i + k + 1) (by rw [sp, nI_add]) (show _ < 28 by omega) ?_
        rw [sI_eq (g := 60) (k := 7 * i + k)]
        exact h1 q9
  · have hs : slo (kds D i) = false := by unfold slo; simp; omega
    refine ix_i (7 * i + k) sp (show _ < 28 by omega) ?_
    refine ix_i (7 * i + k) sp (show _ < 28 by omega) ?_
    have hc : ¬ cal D (D 1) (kds D) k c i = true := fun q0 => (by have := (hcal.mp q0).1; rw [hs] at this; exact absurd this (by decide))
    have el : lvv D (D 1) (kds D) k c i = c i + lo D (kds D i) k := by unfold lvv; rw [if_neg hc]
    rw [b1_f (by simpa using hc), el, ← nI_add (a := c i), ← hcm] at h0
    rw [b1_f (by simpa using hc), el, ← nI_add (a := c i + lo D (kds D i) k), ← nI_add (a := c i), ← hcm] at h1
    refine ix_i (6 + i) (by simp only [nI_add]) (show _ < 78 by omega) ?_
    refine m_loses_e e6 (fun k hk => hn k hk) hb hk hkd ?_
    refine ix_i (7 * i + k) sp (show _ < 28 by omega) ?_
    refine And.intro (fun q9 => ?_) (fun q9 => ?_)
    · have q9 : nI (D 4) - nI 1 ≤ nI k := by rw [← nw hn (show 4 < 78 by omega)]; exact q9
      rw [nI_sub1 (by omega) (by omega)] at q9
      exact h0 (by omega)
    · have q9 : nI k < nI (D 4) - nI 1 := by rw [← nw hn (show 4 < 78 by omega)]; exact q9
      rw [nI_sub1_lt (by omega) (by omega)] at q9
      refine ix_i (7 * i + k) sp (show _ < 28 by omega) ?_
      refine ix_i (6 + i) (by simp only [nI_add]) (show _ < 78 by omega) ?_
      refine m_stretch (fun k hk => hn k hk) hw q9 ?_
      refine m_pace_e e6 hkd (sg_le hw.1 k) ?_
      refine ix_i (7 * i + k + 1) (by rw [sp, nI_add]) (show _ < 28 by omega) ?_
      rw [sI_eq (g := 60) (k := 7 * i + k)]
      exact h1 q9
end ChaseM2
