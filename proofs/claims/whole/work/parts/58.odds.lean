/-! ===== at random: minutes ===== -/
/-- minutes of a kind with no false end: the head, the paths, the wind -/
def mn0 (D : Nat → Nat) (kd : Nat) : Nat := D 3 + sm (fun j => pce kd (sg D j)) (D 4 - 1) + sm (fun j => if wy D j then 2 else 0) (D 4 - 1)
theorem mn0_le {D : Nat → Nat} (hw : wf D) (kd : Nat) : mn0 D kd ≤ 200 := by
  unfold mn0
  have h1 : sm (fun j => pce kd (sg D j)) (D 4 - 1) ≤ (D 4 - 1) * 19 := sm_le (fun j _ => pce_le (sg_le hw.1 j))
  have h2 : sm (fun j => if wy D j then 2 else 0) (D 4 - 1) ≤ (D 4 - 1) * 2 := sm_le (fun j _ => by split <;> omega)
  have h3 := (bnd_of hw).1
  have h4 := (bnd_of hw).2.1
  omega
section OddsC
variable {d c l : Nat} {M : ab_M} {K : ab_K} {D : Nat → Nat}
theorem c_windMinutes (hc : crC M c D) (hw : wf D) (h4 : 0 < D 4) (hK : K (some (vi (nI (sm (fun j => if wy D j then 2 else 0) (D 4 - 1))))) M) : ab_Call (d + 1) 36 [vr 14 c] M K := by
  refine caX1_windMinutes rfl (atX1_windMinutes ?_)
  have hb := bnd_of hw
  have hb4 := hb.2.1
  have key : ∀ j, j ≤ D 4 - 1 → ab_At miX1_windMinutes (d + 1) 4 [some (vr 14 c), some (vi (nI (sm (fun j => if wy D j then 2 else 0) j))), some (vi (nI j))] [] M K := by
    refine up_ind fun j hj ih => ?_
    refine atX1_windMinutes ?_
    refine c_last hc h4 ?_
    refine And.intro (fun h => ?_) (fun h => ?_)
    · have : j = D 4 - 1 := by have := nle_use h; omega
      subst this
      exact hK
    · have hjn := nlt_use h
      have := ih hjn
      rw [← nI_1 j, sm, ← nI_add] at this
      refine c_isWindy hc hb (by omega) (fun _ q => ?_) (fun q => ?_)
      · rw [wy_1 q] at this
        exact this
      · rw [show wy D j = false by unfold wy; simp; exact fun z => q ⟨by omega, z⟩] at this
        exact this
  exact key 0 (Nat.zero_le _)
theorem c_leastMinute {kd : Nat} {v : Int32} (hv : v = nI kd) (hl : ldC M 0 D) (hc : crC M 0 D) (hw : wf D) (hkd : kd ≤ 5) (h4 : 0 < D 4) (hK : K (some (vi (nI (mn0 D kd)))) M) : ab_Call (d + 3) 59 [vr 46 0, vi v] M K := by
  refine caX4_leastMinute rfl (atX4_leastMinute ?_)
  refine c_minutesFor hv hl hc hw hkd h4 ?_
  refine c_windMinutes hc hw h4 ?_
  unfold mn0 at hK
  rw [← nI_add, ← nI_add, ← hc.1] at hK
  exact hK
theorem c_meanMinute {kd : Nat} {v : Int32} (hv : v = nI kd) (hl : ldC M 0 D) (hc : crC M 0 D) (hw : wf D) (hkd : kd ≤ 5) (h4 : 0 < D 4) (hK : K (some (vi (nI (mn0 D kd + sm (fun e => D (69 + e)) (D 5))))) M) : ab_Call (d + 4) 60 [vr 46 0, vi v] M K := by
  refine caX4_meanMinute rfl (atX4_meanMinute ?_)
  refine c_leastMinute hv hl hc hw hkd h4 ?_
  have hb5 := (bnd_of hw).2.2.1
  have key : ∀ j, j ≤ D 5 → ab_At miX4_meanMinute (d + 4) 8 [some (vr 46 0), none, some (vi (nI (mn0 D kd + sm (fun e => D (69 + e)) j))), some (vi (nI j))] [] M K := by
    refine up_ind fun j hj ih => ?_
    refine atX4_meanMinute ?_
    refine And.intro (fun h => ?_) (fun h => ?_)
    · rw [hc.2.2.1] at h
      have : j = D 5 := by have := nle_use h; omega
      subst this
      exact hK
    · rw [hc.2.2.1] at h
      have hjn := nlt_use h
      have e3 := (hc.2.2.2.2.2 j hjn).2.2
      refine ix_i j rfl (show j < 8 by omega) ?_
      have := ih hjn
      rw [← nI_1 j, sm, ← Nat.add_assoc, ← nI_add, ← e3] at this
      exact this
  exact key 0 (Nat.zero_le _)
theorem m_straight {kd : Nat} {v : Int32} (hv : v = nI kd) (hn : nwM M 54 0 D) (hw : wf D) (hkd : kd ≤ 5) (hK : K (some (vi (nI (D 3 + sm (fun j => pce kd (sg D j)) (D 4 - 1))))) M) : ab_Call (d + 3) 252 [vr 49 0, vi v] M K := by
  subst hv
  refine caX10_straight rfl (atX10_straight ?_)
  have hb4 := (bnd_of hw).2.1
  have key : ∀ j, j ≤ D 4 - 1 → ab_At miX10_straight (d + 3) 9 [some (vr 49 0), some (vi (nI kd)), some (vi (nI (D 3 + sm (fun j => pce kd (sg D j)) j))), some (vi (nI j))] [] M K := by
    refine up_ind fun j hj ih => ?_
    refine atX10_straight ?_
    refine And.intro (fun h => ?_) (fun h => ?_)
    · rw [nw hn (by omega), nI_sub1 (by omega) (by omega)] at h
      have : j = D 4 - 1 := by omega
      subst this
      exact hK
    · rw [nw hn (by omega), nI_sub1_lt (by omega) (by omega)] at h
      refine m_stretch hn hw h ?_
      refine m_pace hkd (sg_le hw.1 j) ?_
      have := ih (by omega)
      rw [← nI_1 j, sm, ← Nat.add_assoc, ← nI_add] at this
      exact this
  have e3 : M.1 54 0 3 = nI (D 3) := nw hn (by omega)
  have := key 0 (Nat.zero_le _)
  rw [show D 3 + sm (fun j => pce kd (sg D j)) 0 = D 3 from rfl, ← e3] at this
  exact this
/-- the reference's set of false ends at a place -/
def eap (D : Nat → Nat) (k e : Nat) : Bool := decide (D (53 + e) = D (46 + k))
theorem m_endsAt {k : Nat} (hn : nwM M 54 0 D) (hb : bnd D) (hk : k < D 4) (hK : K (some (vi (nI (bs (eap D k) (D 5))))) M) : ab_Call d 250 [vr 49 0, vi (nI k)] M K := by
  refine caX10_endsAt rfl (atX10_endsAt ?_)
  obtain ⟨b3, b4, b5, b6, b7, b8⟩ := hb
  have ek : M.1 54 0 (46 + k) = nI (D (46 + k)) := nw hn (by omega)
  have bk := b7 k hk
  have key : ∀ j, j ≤ D 5 → ab_At miX10_endsAt d 4 [some (vr 49 0), some (vi (nI k)), some (vi (nI (bs (eap D k) j))), some (vi (nI j))] [] M K := by
    refine up_ind fun j hj ih => ?_
    refine atX10_endsAt ?_
    refine And.intro (fun h => ?_) (fun h => ?_)
    · rw [nw hn (by omega)] at h
      have : j = D 5 := by have := nle_use h; omega
      subst this
      exact hK
    · rw [nw hn (by omega)] at h
      have hjn := nlt_use h
      have g1 := (b8 j hjn).1
      have e1 : M.1 54 0 (53 + j) = nI (D (53 + j)) := nw hn (by omega)
      have := ih hjn
      rw [← nI_1 j] at this
      refine ix_i (53 + j) (by simp only [nI_add]) (show _ < 78 by omega) ?_
      refine ix_i (46 + k) (by simp only [nI_add]) (show _ < 78 by omega) ?_
      refine And.intro (fun q => ?_) (fun q => ?_)
      · rw [e1, ek] at q
        rw [bs_s0 (p := eap D k) (show eap D k j = false from decide_eq_false (nne_use q))] at this
        exact this
      · rw [e1, ek] at q
        rw [bs_s1 (p := eap D k) (show eap D k j = true from decide_eq_true (neq_use q)), ← nI_shl1 (by omega)] at this
        exact this
  exact key 0 (Nat.zero_le _)
end OddsC
