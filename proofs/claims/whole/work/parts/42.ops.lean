/-! ===== hound, comes, gone, across ===== -/
theorem frA_sI2 {g i k : Nat} {v : Int32} {A B : ab_M} (h : frA A B) : frA (ab_sI A g i k v) (ab_sI B g i k v) := by
  refine ⟨fun a b c q => ?_, h.2.1, h.2.2⟩
  by_cases e : a = g ∧ b = i ∧ c = k
  · obtain ⟨rfl, rfl, rfl⟩ := e
    rw [sI_eq, sI_eq]
  · rw [sI_ne e, sI_ne e]
    exact h.1 a b c q
theorem Rel_told {M M1 M3 : ab_M} (v : Int32) (hR : Rel M) (h1 : frA M M1) (h3 : frA (ab_sI M1 0 0 14 v) M3) : Rel (ab_sI M3 49 0 7 v) :=
  Rel_frA (Rel_tell v (Rel_frA hR h1)) (frA_sI2 h3)
section ChaseOps
variable {d : Nat} {M : ab_M} {K : ab_K} {D : Nat → Nat}
theorem op_hound {x y : Int32} (hR : Rel M) : OpI (d + 6) 113 202 [vi x, vi y] M := by
  obtain ⟨D, hw, hw2, hw3, hl, hc, hn, hk⟩ := Rel_D hR
  have w1 : D 1 ≤ 4 := hw.1.2.1
  rcases ix_cases x (n := D 1) (by omega) with ⟨i, hi, rfl⟩ | hx
  · rcases ix_cases y (n := 3) (by omega) with ⟨w, hw4, rfl⟩ | hy
    · refine ab_Call_nr (caX9_hound rfl (atX9_hound ?_))
      refine c_hasHound1 hl hi w1 ?_
      refine And.intro (fun q => absurd q (nI_pos (by omega))) (fun _ => ?_)
      refine And.intro (fun _ => ?_) (fun q => absurd (nlt_use q) (by omega))
      have tail : ∀ M1, frA M M1 → ab_Call (d + 6) 202 [vr 49 0, vi (nI i), vi (nI w)] (ab_sI M1 0 0 14 (tv D i w)) (fun r2 M2 => (∃ v, some (vi (nI 1)) = some (vi v) ∧ r2 = some (vi v)) ∧ Rel M2) := by
        intro M1 f1
        have hn1 : nwM (ab_sI M1 0 0 14 (tv D i w)) 54 0 D := fun k hk => frA_nw f1 (by omega) (by omega) hn k hk
        refine ab_Call_nr (caX10_hound rfl (atX10_hound ?_))
        refine m_isHound1 hn1 hi w1 ?_
        refine c_inP (n := 3) rfl rfl hw4 (by omega) ?_
        refine m_told hn1 hw hi (by omega) (fun M3 f3 => ?_)
        refine caX10_tell rfl (atX10_tell ?_)
        exact ⟨⟨_, rfl, rfl⟩, Rel_told _ hR f1 (frA_S f3 (by omega))⟩
      refine And.intro (fun q => ?_) (fun q => ?_)
      · refine c_ofHound hl hc hw hi (by omega) (Or.inl (neq_use q)) ?_
        refine caX9_tell rfl (atX9_tell ?_)
        exact tail M frA_refl
      · refine c_pursue hl hc hw (fun M1 f1 h1 => ?_)
        have f1' := frA_S f1 (by omega)
        refine c_ofHound (frA_ld f1' hl) (frA_cr f1' (by omega) hc) hw hi (by omega) (Or.inr h1) ?_
        refine caX9_tell rfl (atX9_tell ?_)
        exact tail M1 f1'
    · refine ab_Call_nr (caX9_hound rfl (atX9_hound ?_))
      refine c_hasHound1 hl hi w1 ?_
      have tail : ab_Call (d + 6) 202 [vr 49 0, vi (nI i), vi y] M (fun r2 M2 => (∃ v, some (vi (-1)) = some (vi v) ∧ r2 = some (vi v)) ∧ Rel M2) := by
        refine ab_Call_nr (caX10_hound rfl (atX10_hound ?_))
        refine m_isHound1 hn hi w1 ?_
        refine c_in0 (n := 3) rfl rfl (by omega) hy ?_
        exact ⟨⟨_, rfl, rfl⟩, hR⟩
      refine And.intro (fun q => tail) (fun q => ?_)
      refine And.intro (fun q2 => ?_) (fun q => tail)
      obtain ⟨j, hj, rfl⟩ := i_of_ge q
      exact absurd rfl (hy j (by have := nle_use q2; omega))
  · refine ab_Call_nr (caX9_hound rfl (atX9_hound ?_))
    refine c_hasHound0 hl w1 hx ?_
    refine ab_Call_nr (caX10_hound rfl (atX10_hound ?_))
    refine m_isHound0 hn w1 hx ?_
    exact ⟨⟨_, rfl, rfl⟩, hR⟩
theorem op_comes {x y : Int32} (hR : Rel M) : OpI (d + 6) 126 223 [vi x, vi y] M := by
  obtain ⟨D, hw, hw2, hw3, hl, hc, hn, hk⟩ := Rel_D hR
  have hb := bnd_of hw
  have hb4 := hb.2.1
  have w1 : D 1 ≤ 4 := hw.1.2.1
  rcases ix_cases x (n := D 1) (by omega) with ⟨i, hi, rfl⟩ | hx
  · rcases k_cases y (n := D 4) (by omega) with q | ⟨q, h4⟩ | ⟨q, h4⟩ | ⟨k, hk4, rfl⟩
    · refine ab_Call_nr (caX9_comes rfl (atX9_comes (c_hasHound1 hl hi w1 (c_ra_neg q ?_))))
      refine ab_Call_nr (caX10_comes rfl (atX10_comes (m_isHound1 hn hi w1 (m_rf_neg q ?_))))
      exact ⟨⟨_, rfl, rfl⟩, hR⟩
    · refine ab_Call_nr (caX9_comes rfl (atX9_comes (c_hasHound1 hl hi w1 (c_ra_no q hc h4 ?_))))
      refine ab_Call_nr (caX10_comes rfl (atX10_comes (m_isHound1 hn hi w1 (m_rf_no q hn h4 ?_))))
      exact ⟨⟨_, rfl, rfl⟩, hR⟩
    · refine ab_Call_nr (caX9_comes rfl (atX9_comes (c_hasHound1 hl hi w1 (c_ra_be q hc hb h4 ?_))))
      refine ab_Call_nr (caX10_comes rfl (atX10_comes (m_isHound1 (D := D) (fun k hk => hn k hk) hi w1 (m_rf_be q (D := D) (fun k hk => hn k hk) hb h4 ?_))))
      exact ⟨⟨_, rfl, rfl⟩, Rel_rf 2 hR⟩
    · refine ab_Call_nr (caX9_comes rfl (atX9_comes (c_hasHound1 hl hi w1 (c_ra hc hb hk4 ?_))))
      refine c_pursue hl hc hw (fun M1 f1 h1 => ?_)
      have f1' := frA_S f1 (by omega)
      refine ix_i i rfl (show i < 4 by omega) ?_
      refine ix_i k rfl (show k < 7 by omega) ?_
      refine ix_i i rfl (show i < 4 by omega) ?_
      refine ix_i k rfl (show k < 7 by omega) ?_
      have e32 : M1.1 32 i k = nI (cmv D (D 1) (kds D) k i) := h1.2.2.1 i hi k hk4 (by omega)
      have hn1 : nwM (ab_sI M1 0 0 14 (M1.1 34 i k)) 54 0 D := fun k hk => frA_nw f1' (by omega) (by omega) hn k hk
      refine ab_Call_nr (caX10_comes rfl (atX10_comes (m_isHound1 hn1 hi w1 (m_rf hn1 hb hk4 ?_))))
      refine m_runs hn1 hw (fun M3 f3 h3 => ?_)
      have e59 := h3.1 i hi k hk4
      have hn3 := frS_nw f3 (by omega) hn1
      refine ix_i (7 * i + k) (by simp only [pk_mul, nI_add]) (show _ < 28 by omega) ?_
      refine And.intro (fun q => ?_) (fun q => ?_)
      · have q : ¬ nI k = nI (D 4 - 1) := by rw [← pk_sub (by omega), ← nw hn3 (show 4 < 78 by omega)]; exact q
        have q := nne_use q
        refine ix_i (7 * i + k) (by simp only [pk_mul, nI_add]) (show _ < 28 by omega) ?_
        refine caX10_answer rfl (atX10_answer ?_)
        have e60 : M3.1 60 0 (7 * i + k) = M1.1 34 i k := by rw [(h3.2 i hi k hk4).1, h1.2.2.2.1 i hi k hk4 (by omega)]
        refine ⟨⟨M1.1 32 i k, rfl, ?_⟩, ?_⟩
        · rw [e32, ← e59]; rfl
        · rw [e60]; exact Rel_told _ hR f1' (frA_S f3 (by omega))
      · have q : nI k = nI (D 4 - 1) := by rw [← pk_sub (by omega), ← nw hn3 (show 4 < 78 by omega)]; exact q
        have q := neq_use q
        refine caX10_answer rfl (atX10_answer ?_)
        have e34 : M1.1 34 i k = -9 := by rw [q]; exact h1.2.2.2.2.1 i hi (by omega)
        refine ⟨⟨M1.1 32 i k, rfl, ?_⟩, ?_⟩
        · rw [e32, ← e59]; rfl
        · have := Rel_told _ hR f1' (frA_S f3 (by omega))
          rw [e34] at this
          exact this
  · refine ab_Call_nr (caX9_comes rfl (atX9_comes (c_hasHound0 hl w1 hx ?_)))
    refine ab_Call_nr (caX10_comes rfl (atX10_comes (m_isHound0 hn w1 hx ?_)))
    exact ⟨⟨_, rfl, rfl⟩, hR⟩
theorem m_goes_e {k kd : Nat} {v : Int32} (hv : v = nI kd) (hn : nwM M 54 0 D) (hb : bnd D) (hk : k < D 4) (hkd : kd ≤ 5) (hK : K (some (vi (nI (bs (gp D kd k) (D 5))))) M) : ab_Call (d + 1) 195 [vr 49 0, vi v, vi (nI k)] M K := by
  subst hv
  exact m_goes hn hb hk hkd hK
theorem op_gone {x : Int32} (hR : Rel M) : OpI (d + 5) 142 257 [vi x] M := by
  obtain ⟨D, hw, hw2, hw3, hl, hc, hn, hk⟩ := Rel_D hR
  have hb := bnd_of hw
  have hb4 := hb.2.1
  have w1 : D 1 ≤ 4 := hw.1.2.1
  rcases ix_cases x (n := D 1) (by omega) with ⟨i, hi, rfl⟩ | hx
  · rcases Nat.eq_zero_or_pos (D 4) with h4 | h4
    · refine ab_Call_nr (caX9_gone rfl (atX9_gone (c_hasHound1 hl hi w1 (c_isLaid0 hc h4 ?_))))
      refine ab_Call_nr (caX10_gone rfl (atX10_gone (m_isHound1 hn hi w1 (m_hasTrail0 hn h4 ?_))))
      exact ⟨⟨_, rfl, rfl⟩, hR⟩
    · refine ab_Call_nr (caX9_gone rfl (atX9_gone (c_hasHound1 hl hi w1 (c_isLaid1 hc hb h4 ?_))))
      refine c_pursue hl hc hw (fun M1 f1 h1 => ?_)
      have f1' := frA_S f1 (by omega)
      refine ix_i i rfl (show i < 4 by omega) ?_
      have hn1 := frA_nw f1' (by omega) (by omega) hn
      refine ab_Call_nr (caX10_gone rfl (atX10_gone (m_isHound1 hn1 hi w1 (m_hasTrail1 hn1 h4 hb4 ?_))))
      refine m_runs hn1 hw (fun M3 f3 h3 => ?_)
      have hn3 := frS_nw f3 (by omega) hn1
      have e6 : M3.1 54 0 (6 + i) = nI (kds D i) := nw hn3 (by omega)
      have hkd : kds D i ≤ 5 := hw.1.2.2.2.1 i hi
      have key : ∀ j, j ≤ D 4 - 1 → ab_At miX10_gone (d + 5) 28 [some (vr 49 0), some (vi (nI i)), some (vi (nI (bs (trd D (D 1) (kds D) i j) (D 5)))), some (vi (nI j))] [] M3 (fun r2 M2 => (∃ v, some (vi (M1.1 37 0 i)) = some (vi v) ∧ r2.map ab_nr = some (vi v)) ∧ Rel M2) := by
        refine up_ind fun j hj ih => ?_
        refine atX10_gone ?_
        refine And.intro (fun h => ?_) (fun h => ?_)
        · rw [nw hn3 (by omega), nI_sub1 (by omega) (by omega)] at h
          have : j = D 4 - 1 := by omega
          subst this
          refine ⟨⟨M1.1 37 0 i, rfl, ?_⟩, Rel_frA (Rel_frA hR f1') (frA_S f3 (by omega))⟩
          rw [(h1.2.2.2.2.2 i hi).2.2]
          rfl
        · rw [nw hn3 (by omega), nI_sub1_lt (by omega) (by omega)] at h
          have := ih (by omega)
          have e61 := (h3.2 i hi j (by omega)).2
          refine ix_i (7 * i + j) (by simp only [pk_mul, nI_add]) (show _ < 28 by omega) ?_
          refine And.intro (fun q => ?_) (fun q => ?_)
          · rw [e61] at q
            have q := b1_0 q
            refine ix_i (6 + i) (by simp only [nI_add]) (show _ < 78 by omega) ?_
            refine m_goes_e e6 hn3 hb (by omega) hkd ?_
            rw [show bs (trd D (D 1) (kds D) i (j + 1)) (D 5) = bs (trd D (D 1) (kds D) i j) (D 5) ||| bs (gp D (kds D i) j) (D 5) by
              rw [bs_or]
              refine bs_cong fun e he => ?_
              show (trd D (D 1) (kds D) i j e || tp D (D 1) (kds D) j (cmv D (D 1) (kds D) j) i e) = _
              congr 1
              simp [tp, gp, q, h], ← nI_or, ← nI_1] at this
            exact this
          · rw [e61] at q
            have q := b1_1 q
            rw [show bs (trd D (D 1) (kds D) i (j + 1)) (D 5) = bs (trd D (D 1) (kds D) i j) (D 5) ||| 0 by
              rw [Nat.or_zero]
              refine bs_cong fun e he => ?_
              show (trd D (D 1) (kds D) i j e || tp D (D 1) (kds D) j (cmv D (D 1) (kds D) j) i e) = _
              simp [tp, q], ← nI_or, ← nI_1] at this
            exact this
      have := key 0 (Nat.zero_le _)
      rw [bs_none (p := trd D (D 1) (kds D) i 0) (fun e _ => rfl)] at this
      exact this
  · refine ab_Call_nr (caX9_gone rfl (atX9_gone (c_hasHound0 hl w1 hx ?_)))
    refine ab_Call_nr (caX10_gone rfl (atX10_gone (m_isHound0 hn w1 hx ?_)))
    exact ⟨⟨_, rfl, rfl⟩, hR⟩
end ChaseOps
