/-! ===== call, mark ===== -/
section ChaseOps4
variable {d : Nat} {M : ab_M} {K : ab_K} {D : Nat → Nat} {H : Nat} {kd : Nat → Nat}
/-- the least of the first n -/
def mnv (c : Nat → Nat) : Nat → Nat
  | 0 => 1000000
  | n + 1 => min (mnv c n) (c n)
/-- those who are the least of the first n, among them -/
def mns (c : Nat → Nat) (n i : Nat) : Bool := decide (c i = mnv c n)
theorem mnv_le {c : Nat → Nat} : ∀ {n : Nat} {i : Nat}, i < n → mnv c n ≤ c i
  | n + 1, i, h => by
    rw [mnv]
    by_cases e : i = n
    · subst e; omega
    · have := mnv_le (c := c) (n := n) (i := i) (by omega)
      omega
theorem mns_lt {c : Nat → Nat} {n : Nat} (h : c n < mnv c n) : bs (mns c (n + 1)) (n + 1) = 0 ||| 2 ^ n ∧ mnv c (n + 1) = c n := by
  have e : mnv c (n + 1) = c n := by rw [mnv]; omega
  refine ⟨?_, e⟩
  rw [bs, if_pos (by unfold mns; rw [e]; simp), bs_none (fun k hk => by
    unfold mns
    rw [e]
    have := mnv_le (c := c) hk
    simp
    omega), Nat.zero_or, Nat.zero_add]
theorem mns_eq {c : Nat → Nat} {n : Nat} (h : c n = mnv c n) : bs (mns c (n + 1)) (n + 1) = bs (mns c n) n ||| 2 ^ n ∧ mnv c (n + 1) = mnv c n := by
  have e : mnv c (n + 1) = mnv c n := by rw [mnv]; omega
  refine ⟨?_, e⟩
  rw [bs, if_pos (by unfold mns; rw [e]; simp [h]), bs_or1]
  congr 1
  refine bs_cong fun k hk => ?_
  unfold mns
  rw [e]
theorem mns_gt {c : Nat → Nat} {n : Nat} (h : mnv c n < c n) : bs (mns c (n + 1)) (n + 1) = bs (mns c n) n ||| 0 ∧ mnv c (n + 1) = mnv c n := by
  have e : mnv c (n + 1) = mnv c n := by rw [mnv]; omega
  refine ⟨?_, e⟩
  rw [bs, if_neg (by unfold mns; rw [e]; simp; omega), Nat.or_zero, Nat.add_zero]
  refine bs_cong fun k hk => ?_
  unfold mns
  rw [e]
theorem mns_pos {c : Nat → Nat} (hc : ∀ i, c i < 1000000) : ∀ {n : Nat}, 0 < n → 0 < bs (mns c n) n
  | n + 1, _ => by
    rcases Nat.lt_trichotomy (c n) (mnv c n) with q | q | q
    · rw [(mns_lt q).1, Nat.zero_or]
      exact Nat.two_pow_pos n
    · rw [(mns_eq q).1, bs_or1]
      have := Nat.two_pow_pos n
      omega
    · rw [(mns_gt q).1, Nat.or_zero]
      rcases Nat.eq_zero_or_pos n with z | z
      · subst z
        have := hc 0
        rw [mnv] at q
        omega
      · exact mns_pos hc z
theorem c_firstCallers {k : Nat} {c : Nat → Nat} (h0 : M.1 21 0 0 = nI H) (hH : H ≤ 4) (hk : k < 7) (hc : ∀ i, i < H → M.1 34 i k = nI (c i)) (hcl : ∀ i, c i < 1000) (hK : K (some (vi (nI (bs (mns c H) H)))) M) : ab_Call d 18 [vr 21 0, vi (nI k)] M K := by
  refine caX0_firstCallers rfl (atX0_firstCallers ?_)
  have key : ∀ j, j ≤ H → ∀ v : Int32, (0 < j → v = nI (mnv c j)) → ab_At miX0_firstCallers d 7 [some (vr 21 0), some (vi (nI k)), some (vi (nI (bs (mns c j) j))), some (vi v), some (vi (nI j))] [] M K := by
    refine up_ind fun j hj ih v hv => ?_
    refine atX0_firstCallers ?_
    refine And.intro (fun h => ?_) (fun h => ?_)
    · rw [h0] at h
      have : j = H := by have := nle_use h; omega
      subst this
      exact hK
    · rw [h0] at h
      have hjn := nlt_use h
      have ec := hc j hjn
      have l1 := hcl j
      have lm : 0 < j → mnv c j < 1000 := fun q => Nat.lt_of_le_of_lt (mnv_le (i := 0) q) (hcl 0)
      have b8 : bs (mns c j) j < 2 ^ 8 := Nat.lt_of_lt_of_le (bs_lt _ j) (Nat.pow_le_pow_right (by omega) (by omega))
      have sh : ab_shl (nI 1) (nI j) = nI (2 ^ j) := nI_shl1 (by omega)
      have new : c j < mnv c j → ab_At miX0_firstCallers d 7 [some (vr 21 0), some (vi (nI k)), some (vi (nI 0 ||| ab_shl (nI 1) (nI j))), some (vi (M.1 34 j k)), some (vi (nI j + nI 1))] [] M K := by
        intro w
        have := ih hjn (M.1 34 j k) (fun _ => by rw [ec, (mns_lt w).2])
        rw [(mns_lt w).1, ← nI_or, ← sh, ← nI_1 j] at this
        exact this
      refine And.intro (fun q => ?_) (fun q => ?_)
      · have q := neq_use q
        have j0 : j = 0 := by
          rcases Nat.eq_zero_or_pos j with w | w
          · exact w
          · have := mns_pos (c := c) (fun i => by have := hcl i; omega) w; omega
        refine ix_i j rfl (show j < 4 by omega) ?_
        refine ix_i k rfl (show k < 7 by omega) ?_
        refine ix_i j rfl (show j < 4 by omega) ?_
        refine ix_i k rfl (show k < 7 by omega) ?_
        refine And.intro (fun w => absurd rfl w) (fun _ => ?_)
        exact new (by rw [j0, mnv]; have := hcl 0; omega)
      · have q := nne_use q
        have j0 : 0 < j := by
          rcases Nat.eq_zero_or_pos j with w | w
          · subst w; exact absurd rfl q
          · exact w
        have lm := lm j0
        have hv := hv j0
        refine ix_i j rfl (show j < 4 by omega) ?_
        refine ix_i k rfl (show k < 7 by omega) ?_
        refine And.intro (fun q2 => ?_) (fun q2 => ?_)
        · rw [ec, hv] at q2
          have q2 := nle_use q2
          refine ix_i j rfl (show j < 4 by omega) ?_
          refine ix_i k rfl (show k < 7 by omega) ?_
          refine And.intro (fun w => ?_) (fun w => ?_)
          · rw [ec, hv] at w
            have w := nne_use w
            have q3 : mnv c j < c j := by omega
            have := ih hjn v (fun _ => by rw [hv, (mns_gt q3).2])
            rw [(mns_gt q3).1, ← nI_or, ← nI_1 j] at this
            exact this
          · rw [ec, hv] at w
            have w := neq_use w
            have := ih hjn v (fun _ => by rw [hv, (mns_eq w).2])
            rw [(mns_eq w).1, ← nI_or, ← sh, ← nI_1 j] at this
            exact this
        · rw [ec, hv] at q2
          have q2 := nlt_use q2
          refine ix_i j rfl (show j < 4 by omega) ?_
          refine ix_i k rfl (show k < 7 by omega) ?_
          refine ix_i j rfl (show j < 4 by omega) ?_
          refine ix_i k rfl (show k < 7 by omega) ?_
          refine And.intro (fun w => absurd rfl w) (fun _ => ?_)
          exact new q2
  exact key 0 (Nat.zero_le _) (nI 0) (fun q => by omega)
theorem op_call {x : Int32} (hR : Rel M) : OpI (d + 5) 130 230 [vi x] M := by
  obtain ⟨D, hw, hw2, hw3, hl, hc, hn, hk⟩ := Rel_D hR
  have hb := bnd_of hw
  have hb4 := hb.2.1
  have w1 : D 1 ≤ 4 := hw.1.2.1
  rcases k_cases x (n := D 4) (by omega) with q | ⟨q, h4⟩ | ⟨q, h4⟩ | ⟨k, hk4, rfl⟩
  · refine ab_Call_nr (caX9_call rfl (atX9_call (c_ra_neg q ?_)))
    refine ab_Call_nr (caX10_call rfl (atX10_call (m_rf_neg q ?_)))
    exact ⟨⟨_, rfl, rfl⟩, hR⟩
  · refine ab_Call_nr (caX9_call rfl (atX9_call (c_ra_no q hc h4 ?_)))
    refine ab_Call_nr (caX10_call rfl (atX10_call (m_rf_no q hn h4 ?_)))
    exact ⟨⟨_, rfl, rfl⟩, hR⟩
  · refine ab_Call_nr (caX9_call rfl (atX9_call (c_ra_be q hc hb h4 ?_)))
    refine ab_Call_nr (caX10_call rfl (atX10_call (m_rf_be q (D := D) (fun k hk => hn k hk) hb h4 ?_)))
    exact ⟨⟨_, rfl, rfl⟩, Rel_rf 2 hR⟩
  · refine ab_Call_nr (caX9_call rfl (atX9_call (c_ra hc hb hk4 ?_)))
    refine c_pursue hl hc hw (fun M1 f1 h1 => ?_)
    have f1' := frA_S f1 (by omega)
    have hn1 := frA_nw f1' (by omega) (by omega) hn
    have e25 : M1.1 25 0 k = nI (b1 (ck D k)) := (h1.1.2.2 k hk4).2
    have clv : ∀ i, lvv D (D 1) (kds D) k (cmv D (D 1) (kds D) k) i < 1000 := fun i => by
      have := cmv_le hw (H := D 1) (kd := kds D) (i := i) k
      have := lvv_le hb (H := D 1) (kd := kds D) (k := k) (c := cmv D (D 1) (kds D) k) (i := i)
      omega
    refine ix_i k rfl (show k < 7 by omega) ?_
    refine And.intro (fun q => ?_) (fun q => ?_)
    · rw [e25] at q
      have q := b1_0 q
      refine ab_Call_nr (caX10_call rfl (atX10_call (m_rf hn1 hb hk4 ?_)))
      refine m_runs hn1 hw (fun M3 f3 h3 => ?_)
      have hn3 := frS_nw f3 (by omega) hn1
      refine atX10_call ?_
      have fin : Rel M3 := Rel_frA (Rel_frA hR f1') (frA_S f3 (by omega))
      refine And.intro (fun _ => ⟨⟨_, rfl, rfl⟩, fin⟩) (fun _ => ?_)
      refine m_isCheck hn3 hb hk4 (fun w => by rw [q] at w; exact absurd w (by decide)) (fun _ => ?_)
      exact ⟨⟨_, rfl, rfl⟩, fin⟩
    · rw [e25] at q
      have q := b1_1 q
      have hk1 : k + 1 < D 4 := by unfold ck at q; simp at q; exact q.1
      refine c_firstCallers h1.1.1.1 w1 (by omega) (c := lvv D (D 1) (kds D) k (cmv D (D 1) (kds D) k)) (fun i hi => h1.2.2.2.1 i hi k hk4 (by omega)) clv ?_
      refine ab_Call_nr (caX10_call rfl (atX10_call (m_rf hn1 hb hk4 ?_)))
      refine m_runs hn1 hw (fun M3 f3 h3 => ?_)
      have hn3 := frS_nw f3 (by omega) hn1
      have fin : Rel M3 := Rel_frA (Rel_frA hR f1') (frA_S f3 (by omega))
      generalize hcc : lvv D (D 1) (kds D) k (cmv D (D 1) (kds D) k) = c at *
      have key : ∀ j, j ≤ D 1 → ab_At miX10_call (d + 5) 25 [some (vr 49 0), some (vi (nI k)), none, some (vi (nI (mnv c j))), some (vi (nI (bs (mns c j) j))), some (vi (nI j))] [] M3 (fun r2 M2 => (∃ v, some (vi (nI (bs (mns c (D 1)) (D 1)))) = some (vi v) ∧ r2.map ab_nr = some (vi v)) ∧ Rel M2) := by
        refine up_ind fun j hj ih => ?_
        refine atX10_call ?_
        refine And.intro (fun h => ?_) (fun h => ?_)
        · rw [nw hn3 (by omega)] at h
          have : j = D 1 := by have := nle_use h; omega
          subst this
          exact ⟨⟨_, rfl, rfl⟩, fin⟩
        · rw [nw hn3 (by omega)] at h
          have hjn := nlt_use h
          refine m_isCheck hn3 hb hk4 (fun _ => ?_) (fun w => by rw [q] at w; exact absurd w (by decide))
          have e60 : M3.1 60 0 (7 * j + k) = nI (c j) := by rw [(h3.2 j hjn k hk4).1, hcc]
          have l1 := clv j
          have lm : mnv c j ≤ 1000000 := by
            rcases Nat.eq_zero_or_pos j with z | z
            · subst z; exact Nat.le_refl _
            · have := mnv_le (c := c) (i := 0) z; have := clv 0; omega
          have sh : ab_shl (nI 1) (nI j) = nI (2 ^ j) := nI_shl1 (by omega)
          have := ih hjn
          refine ix_i (7 * j + k) (by simp only [pk_mul, nI_add]) (show _ < 28 by omega) ?_
          refine And.intro (fun q2 => ?_) (fun q2 => ?_)
          · rw [e60] at q2
            have q2 := nle_use q2
            refine And.intro (fun q3 => ?_) (fun q3 => ?_)
            · rw [e60] at q3
              have q3 := nne_use q3
              have q4 : mnv c j < c j := by omega
              rw [(mns_gt q4).1, (mns_gt q4).2, Nat.or_zero, ← nI_1 j] at this
              refine And.intro (fun _ => this) (fun w => ?_)
              rw [e60] at w
              have := nlt_use w
              omega
            · rw [e60] at q3
              have q3 := neq_use q3
              rw [(mns_eq q3).1, (mns_eq q3).2, ← nI_or, ← sh, ← nI_1 j] at this
              refine And.intro (fun _ => this) (fun w => ?_)
              rw [e60] at w
              have := nlt_use w
              omega
          · rw [e60] at q2
            have q2 := nlt_use q2
            rw [(mns_lt q2).1, (mns_lt q2).2, Nat.zero_or, ← sh, ← nI_1 j, ← e60] at this
            refine And.intro (fun w => ?_) (fun _ => this)
            rw [e60] at w
            have := nle_use w
            omega
      exact key 0 (Nat.zero_le _)
end ChaseOps4
