/-! ===== caught, across, call ===== -/
section ChaseOps3
variable {d : Nat} {M : ab_M} {K : ab_K} {D : Nat → Nat} {H : Nat} {kd : Nat → Nat}
theorem n9 {k : Nat} (hk : k < 2 ^ 31) : ¬ nI k = -9 := fun q => by
  have := congrArg Int32.toInt q
  rw [nI_toInt hk] at this
  exact absurd this (by show ¬ (k : Int) = -9; omega)
theorem op_caught (hR : Rel M) : OpI (d + 6) 128 227 [] M := by
  obtain ⟨D, hw, hw2, hw3, hl, hc, hn, hk⟩ := Rel_D hR
  have hb := bnd_of hw
  have hb4 := hb.2.1
  have w1 : D 1 ≤ 4 := hw.1.2.1
  rcases Nat.eq_zero_or_pos (D 4) with h4 | h4
  · refine ab_Call_nr (caX9_caught rfl (atX9_caught (c_isLaid0 hc h4 ?_)))
    refine ab_Call_nr (caX10_caught rfl (atX10_caught (m_hasTrail0 hn h4 ?_)))
    exact ⟨⟨_, rfl, rfl⟩, hR⟩
  · refine ab_Call_nr (caX9_caught rfl (atX9_caught (c_isLaid1 hc hb h4 ?_)))
    refine c_pursue hl hc hw (fun M1 f1 h1 => ?_)
    have f1' := frA_S f1 (by omega)
    refine c_caughtAt hw h1 w1 h4 (fun k k1 k2 k3 k4 => ?_) (fun hno => ?_)
    · refine And.intro (fun _ => ?_) (fun q => absurd q (n9 (by omega)))
      have hH : 0 < D 1 := by obtain ⟨i, hi, _⟩ := k3; omega
      refine c_firstAt rfl hH w1 (by omega) h1.1.1.1 (fun i hi => h1.2.2.1 i hi k k2 (by omega)) (fun i => by have := cmv_le hw (H := D 1) (kd := kds D) (i := i) k; omega) (fun f hf => ?_)
      have hn1 : nwM (ab_sI M1 0 0 14 (nI f)) 54 0 D := fun k hk => frA_nw f1' (by omega) (by omega) hn k hk
      refine ab_Call_nr (caX10_caught rfl (atX10_caught (m_hasTrail1 hn1 h4 hb4 ?_)))
      refine m_runs hn1 hw (fun M3 f3 h3 => ?_)
      have hn3 := frS_nw f3 (by omega) hn1
      refine m_caughtAt hn3 hw h3 h4 (fun j j1 j2 j3 j4 => ?_) (fun hno => absurd k3 (hno k k1 k2))
      have : j = k := by
        rcases Nat.lt_trichotomy j k with w | w | w
        · exact absurd j3 (k4 j j1 w)
        · exact w
        · exact absurd k3 (j4 k k1 w)
      subst this
      refine And.intro (fun _ => ?_) (fun q => absurd q (n9 (by omega)))
      refine m_firstAt rfl hn3 hw h3 k2 hH (fun g hg => ?_)
      rw [fst1_u hg hf]
      refine caX10_answer rfl (atX10_answer ?_)
      exact ⟨⟨_, rfl, rfl⟩, Rel_told _ hR f1' (frA_S f3 (by omega))⟩
    · refine And.intro (fun q => absurd rfl q) (fun _ => ?_)
      have hn1 := frA_nw f1' (by omega) (by omega) hn
      refine ab_Call_nr (caX10_caught rfl (atX10_caught (m_hasTrail1 hn1 h4 hb4 ?_)))
      refine m_runs hn1 hw (fun M3 f3 h3 => ?_)
      have hn3 := frS_nw f3 (by omega) hn1
      refine m_caughtAt hn3 hw h3 h4 (fun j j1 j2 j3 j4 => absurd j3 (hno j j1 j2)) (fun _ => ?_)
      refine And.intro (fun q => absurd rfl q) (fun _ => ?_)
      exact ⟨⟨_, rfl, rfl⟩, Rel_frA (Rel_frA hR f1') (frA_S f3 (by omega))⟩
theorem m_pathOf_e {X Y : Nat} {v w : Int32} (hv : v = nI X) (hw2 : w = nI Y) (hn : nwM M 54 0 D) (hL : wfL D) (hX : X < 7) (hY : Y < 7) (h1 : ∀ k, k < D 2 → pm D X Y = D (34 + k) → 0 < pm D X Y → K (some (vi (nI k))) M) (h0 : pm D X Y = 0 → K (some (vi (-1))) M) : ab_Call d 179 [vr 54 0, vi v, vi w] M K := by
  subst hv
  subst hw2
  exact m_pathOf hn hL hX hY h1 h0
theorem m_takesOf_e {X Y : Nat} {v w : Int32} (hv : v = nI X) (hw2 : w = nI Y) (hn : nwM M 54 0 D) (hL : wfL D) (hX : X < 7) (hY : Y < 7) (hp : 0 < pm D X Y) (hK : K (some (vi (nI (pm D X Y)))) M) : ab_Call (d + 1) 192 [vr 49 0, vi v, vi w] M K := by
  subst hv
  subst hw2
  exact m_takesOf hn hL hX hY hp hK
theorem op_across {x y z : Int32} (hR : Rel M) : OpI (d + 5) 136 246 [vi x, vi y, vi z] M := by
  obtain ⟨D, hw, hw2, hw3, hl, hc, hn, hk⟩ := Rel_D hR
  have hb := bnd_of hw
  have hb' := hb
  obtain ⟨b3, b4, b5, b6, b7, b8⟩ := hb'
  have w1 : D 1 ≤ 4 := hw.1.2.1
  have bad : ab_Call (d + 5) 246 [vr 49 0, vi x, vi y, vi z] M (fun r2 M2 => (r2 = some (vi (-1))) ∧ Rel M2) → ((∀ j, j < D 1 → x ≠ nI j) ∨ y < nI 0 ∨ z ≤ y) → OpI (d + 5) 136 246 [vi x, vi y, vi z] M := by
    intro hm hbad
    have hm' : ab_Call (d + 5) 246 [vr 49 0, vi x, vi y, vi z] M (fun r2 M2 => (∃ v, some (vi (-1)) = some (vi v) ∧ r2 = some (vi v)) ∧ Rel M2) := ab_Call_K (fun r M q => ⟨⟨_, rfl, q.1⟩, q.2⟩) hm
    refine ab_Call_nr (caX9_across rfl (atX9_across ?_))
    rcases ix_cases x (n := D 1) (by omega) with ⟨i, hi, rfl⟩ | hx
    · refine c_hasHound1 hl hi w1 ?_
      refine And.intro (fun _ => hm') (fun q => ?_)
      refine And.intro (fun q2 => ?_) (fun _ => hm')
      rcases hbad with w | w | w
      · exact absurd rfl (w i hi)
      · exact absurd q (i_not_le w)
      · exact absurd w (i_not_le q2)
    · exact c_hasHound0 hl w1 hx hm'
  rcases ix_cases x (n := D 1) (by omega) with ⟨i, hi, rfl⟩ | hx
  · by_cases hy : y < nI 0
    · refine bad ?_ (Or.inr (Or.inl hy))
      refine ab_Call_nr (caX10_across rfl (atX10_across (m_isHound1 hn hi w1 ?_)))
      exact And.intro (fun _ => ⟨rfl, hR⟩) (fun q => absurd q (i_not_le hy))
    · by_cases hz : z ≤ y
      · refine bad ?_ (Or.inr (Or.inr hz))
        refine ab_Call_nr (caX10_across rfl (atX10_across (m_isHound1 hn hi w1 ?_)))
        exact And.intro (fun _ => ⟨rfl, hR⟩) (fun q => And.intro (fun q2 => absurd hz (i_not_le q2)) (fun _ => ⟨rfl, hR⟩))
      · have hy0 : nI 0 ≤ y := Int32.not_lt.mp hy
        have hzy : y < z := Int32.not_le.mp hz
        rcases k_cases z (n := D 4) (by omega) with q | ⟨q, h4⟩ | ⟨q, h4⟩ | ⟨j, hj4, rfl⟩
        · exact absurd (i_le_trans hy0 (Int32.le_of_lt hzy)) (i_not_le q)
        · refine ab_Call_nr (caX9_across rfl (atX9_across (c_hasHound1 hl hi w1 ?_)))
          refine And.intro (fun w => absurd w hy) (fun _ => And.intro (fun _ => ?_) (fun w => absurd w hz))
          refine c_ra_no q hc h4 ?_
          refine ab_Call_nr (caX10_across rfl (atX10_across (m_isHound1 hn hi w1 ?_)))
          refine And.intro (fun w => absurd w hy) (fun _ => And.intro (fun _ => ?_) (fun w => absurd w hz))
          refine m_rf_no q hn h4 ?_
          exact ⟨⟨_, rfl, rfl⟩, hR⟩
        · refine ab_Call_nr (caX9_across rfl (atX9_across (c_hasHound1 hl hi w1 ?_)))
          refine And.intro (fun w => absurd w hy) (fun _ => And.intro (fun _ => ?_) (fun w => absurd w hz))
          refine c_ra_be q hc hb h4 ?_
          refine ab_Call_nr (caX10_across rfl (atX10_across (m_isHound1 (D := D) (fun k hk => hn k hk) hi w1 ?_)))
          refine And.intro (fun w => absurd w hy) (fun _ => And.intro (fun _ => ?_) (fun w => absurd w hz))
          refine m_rf_be q (D := D) (fun k hk => hn k hk) hb h4 ?_
          exact ⟨⟨_, rfl, rfl⟩, Rel_rf 2 hR⟩
        · obtain ⟨k, hk31, rfl⟩ := i_of_ge hy0
          have hkj := nlt_use hzy
          refine ab_Call_nr (caX9_across rfl (atX9_across (c_hasHound1 hl hi w1 ?_)))
          refine And.intro (fun w => absurd w hy) (fun _ => And.intro (fun _ => ?_) (fun w => absurd w hz))
          refine c_ra hc hb hj4 ?_
          have ek : M.1 15 0 k = nI (D (46 + k)) := hc.2.2.2.2.1 k (by omega)
          have ej : M.1 15 0 j = nI (D (46 + j)) := hc.2.2.2.2.1 j hj4
          have bk := b7 k (by omega)
          have bj := b7 j hj4
          refine ix_i k rfl (show k < 7 by omega) ?_
          refine ix_i (D (46 + k)) ek bk ?_
          refine ix_i j rfl (show j < 7 by omega) ?_
          refine ix_i (D (46 + j)) ej bj ?_
          have ep : M.1 12 (7 * 0 + D (46 + k)) (D (46 + j)) = nI (pm D (D (46 + k)) (D (46 + j))) := hl.2.2.2.2 _ bk _ bj
          have hp9 := pm_le hw.1 (D (46 + k)) (D (46 + j))
          refine And.intro (fun q => ?_) (fun q => ?_)
          · have q : ¬ nI (pm D (D (46 + k)) (D (46 + j))) = nI 0 := by rw [← ep]; exact q
            have hp : 0 < pm D (D (46 + k)) (D (46 + j)) := by have := nne_use q; omega
            refine c_pursue hl hc hw (fun M1 f1 h1 => ?_)
            have f1' := frA_S f1 (by omega)
            have hl1 := frA_ld f1' hl
            have e10 : M1.1 10 0 i = nI (kds D i) := hl1.2.2.2.1 i hi
            have c1 := h1.2.2.1 i hi k (by omega) (by omega)
            have c2 := h1.2.2.1 i hi j hj4 (by omega)
            refine ix_i i rfl (show i < 4 by omega) ?_
            refine ix_i k rfl (show k < 7 by omega) ?_
            refine ix_i i rfl (show i < 4 by omega) ?_
            refine c_pace_e e10 ep (hw.1.2.2.2.1 i hi) hp9 ?_
            refine ix_i i rfl (show i < 4 by omega) ?_
            refine ix_i j rfl (show j < 7 by omega) ?_
            refine caX9_tell rfl (atX9_tell ?_)
            generalize hv : M1.1 32 i j - (M1.1 32 i k + nI (pce (kds D i) (pm D (D (46 + k)) (D (46 + j))))) = v
            have hn1 : nwM (ab_sI M1 0 0 14 v) 54 0 D := fun k hk => frA_nw f1' (by omega) (by omega) hn k hk
            have nk : (ab_sI M1 0 0 14 v).1 54 0 (46 + k) = nI (D (46 + k)) := nw hn1 (by omega)
            have nj : (ab_sI M1 0 0 14 v).1 54 0 (46 + j) = nI (D (46 + j)) := nw hn1 (by omega)
            refine ab_Call_nr (caX10_across rfl (atX10_across (m_isHound1 hn1 hi w1 ?_)))
            refine And.intro (fun w => absurd w hy) (fun _ => And.intro (fun _ => ?_) (fun w => absurd w hz))
            refine m_rf hn1 hb hj4 ?_
            refine ix_i (46 + k) (by simp only [nI_add]) (show _ < 78 by omega) ?_
            refine ix_i (46 + j) (by simp only [nI_add]) (show _ < 78 by omega) ?_
            have hL2 := hw.1.2.2.1
            refine m_pathOf_e nk nj hn1 hw.1 bk bj (fun n n1 n2 n3 => ?_) (fun w => by omega)
            refine And.intro (fun _ => ?_) (fun w => absurd w (nI_pos (by omega)))
            refine m_runs hn1 hw (fun M3 f3 h3 => ?_)
            have hn3 := frS_nw f3 (by omega) hn1
            have nk3 : M3.1 54 0 (46 + k) = nI (D (46 + k)) := nw hn3 (by omega)
            have nj3 : M3.1 54 0 (46 + j) = nI (D (46 + j)) := nw hn3 (by omega)
            have n6 : M3.1 54 0 (6 + i) = nI (kds D i) := nw hn3 (by omega)
            refine ix_i (7 * i + k) (by simp only [pk_mul, nI_add]) (show _ < 28 by omega) ?_
            refine ix_i (6 + i) (by simp only [nI_add]) (show _ < 78 by omega) ?_
            refine ix_i (46 + k) (by simp only [nI_add]) (show _ < 78 by omega) ?_
            refine ix_i (46 + j) (by simp only [nI_add]) (show _ < 78 by omega) ?_
            refine m_takesOf_e nk3 nj3 hn3 hw.1 bk bj hp ?_
            refine m_pace_e n6 (hw.1.2.2.2.1 i hi) hp9 ?_
            refine ix_i (7 * i + j) (by simp only [pk_mul, nI_add]) (show _ < 28 by omega) ?_
            refine caX10_tell rfl (atX10_tell ?_)
            have ev : M3.1 59 0 (7 * i + j) - (M3.1 59 0 (7 * i + k) + nI (pce (kds D i) (pm D (D (46 + k)) (D (46 + j))))) = v := by
              rw [← hv, c1, c2, h3.1 i hi j hj4, h3.1 i hi k (by omega)]
            rw [ev]
            exact ⟨⟨_, rfl, rfl⟩, Rel_told _ hR f1' (frA_S f3 (by omega))⟩
          · have q : nI (pm D (D (46 + k)) (D (46 + j))) = nI 0 := by rw [← ep]; exact q
            have hp : pm D (D (46 + k)) (D (46 + j)) = 0 := neq_use q
            have nk : M.1 54 0 (46 + k) = nI (D (46 + k)) := nw hn (by omega)
            have nj : M.1 54 0 (46 + j) = nI (D (46 + j)) := nw hn (by omega)
            refine ab_Call_nr (caX10_across rfl (atX10_across (m_isHound1 hn hi w1 ?_)))
            refine And.intro (fun w => absurd w hy) (fun _ => And.intro (fun _ => ?_) (fun w => absurd w hz))
            refine m_rf hn hb hj4 ?_
            refine ix_i (46 + k) (by simp only [nI_add]) (show _ < 78 by omega) ?_
            refine ix_i (46 + j) (by simp only [nI_add]) (show _ < 78 by omega) ?_
            refine m_pathOf_e nk nj hn hw.1 bk bj (fun n n1 n2 n3 => by omega) (fun w => ?_)
            refine And.intro (fun w => absurd w (by decide)) (fun _ => ?_)
            exact ⟨⟨_, rfl, rfl⟩, hR⟩
  · refine bad ?_ (Or.inl hx)
    refine ab_Call_nr (caX10_across rfl (atX10_across (m_isHound0 hn w1 hx ?_)))
    exact ⟨rfl, hR⟩
end ChaseOps3
