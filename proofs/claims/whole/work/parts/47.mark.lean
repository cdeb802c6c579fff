/-! ===== mark, pack ===== -/
section Mark2
variable {d c l : Nat} {M : ab_M} {K : ab_K} {D : Nat → Nat}
theorem sm_sub {f g : Nat → Nat} : ∀ {n : Nat}, (∀ k, k < n → g k ≤ f k) → sm g n ≤ sm f n ∧ sm f n - sm g n = sm (fun k => f k - g k) n
  | 0, _ => ⟨Nat.le_refl _, rfl⟩
  | n + 1, h => by
    obtain ⟨h1, h2⟩ := sm_sub (n := n) (fun k hk => h k (by omega))
    have h3 := h n (by omega)
    simp only [sm]
    omega
theorem pce1_le {m : Nat} (h : 1 ≤ m) : pce 1 m ≤ m := by unfold pce; simp; omega
theorem cal_ns {D : Nat → Nat} {H : Nat} {kd : Nat → Nat} {k : Nat} {c : Nat → Nat} {i : Nat} (h : slo (kd i) = false) : cal D H kd k c i = false := by
  unfold cal
  rw [h, Bool.false_and, Bool.false_and]
theorem mark3 {i : Nat} (hw : wf D) (hkd : kds D i = 3) : pc8 (bs (trd D (D 1) (kds D) i (D 4 - 1)) (D 5)) = sm (inc D i 3) (D 4 - 1) := by
  have hb5 := (bnd_of hw).2.2.1
  rw [pc8_bs hb5]
  have e1 : ∀ j, j < D 4 - 1 → inc D i 3 j = sm (fun e => b1 (gp D 3 j e)) (D 5) := fun j hj => by
    show pc8 (bs (gp D 3 j) (D 5)) = _
    rw [pc8_bs hb5]
  rw [sm_cong e1, sm_swap]
  refine sm_cong fun e he => ?_
  have h := exb_one (p := fun j => gp D 3 j e) (n := D 4 - 1) (fun a b ha hb pa pb => by
    have qa : D (53 + e) = D (46 + a) := by simp only [gp, cnd, Bool.and_eq_true, decide_eq_true_eq] at pa; exact pa.2.1
    have qb : D (53 + e) = D (46 + b) := by simp only [gp, cnd, Bool.and_eq_true, decide_eq_true_eq] at pb; exact pb.2.1
    have hd := hw.2.2.2.2.2.2.1
    rcases Nat.lt_trichotomy a b with w | w | w
    · exact absurd (qa.symm.trans qb) (hd a b w (by omega))
    · exact w
    · exact absurd (qb.symm.trans qa) (hd b a w (by omega)))
  rw [← h]
  unfold trd
  congr 1
  have cg : ∀ {p q : Nat → Bool} {n : Nat}, (∀ k, k < n → p k = q k) → exb p n = exb q n := by
    intro p q n
    induction n with
    | zero => intro _; rfl
    | succ n ih => intro h; rw [exb, exb, ih (fun k hk => h k (by omega)), h n (by omega)]
  refine cg fun j hj => ?_
  unfold tp gp
  rw [cal_ns (by rw [hkd]; rfl), hkd]
  simp
  intro w
  omega
theorem op_mark {x y : Int32} (hR : Rel M) : OpI (d + 5) 114 204 [vi x, vi y] M := by
  obtain ⟨D, hw, hw2, hw3, hl, hc, hn, hk⟩ := Rel_D hR
  have hb := bnd_of hw
  have hb4 := hb.2.1
  have hb5 := hb.2.2.1
  have w1 : D 1 ≤ 4 := hw.1.2.1
  rcases ix_cases x (n := D 1) (by omega) with ⟨i, hi, rfl⟩ | hx
  · have hkd : kds D i ≤ 5 := hw.1.2.2.2.1 i hi
    have e10 : M.1 10 0 i = nI (kds D i) := hl.2.2.2.1 i hi
    have e6 : M.1 54 0 (6 + i) = nI (kds D i) := nw hn (by omega)
    by_cases hy : ∃ kind, 1 ≤ kind ∧ kind ≤ 5 ∧ y = nI kind
    · obtain ⟨kind, k1, k5, rfl⟩ := hy
      refine ab_Call_nr (caX9_mark rfl (atX9_mark (c_hasHound1 hl hi w1 ?_)))
      refine And.intro (fun q => absurd (nle_use q) (by omega)) (fun _ => And.intro (fun _ => ?_) (fun q => absurd (nle_use q) (by omega)))
      refine ix_i i rfl (show i < 4 by omega) ?_
      rw [e10]
      refine c_isA hkd k5 (fun hU => ?_) (fun hU => ?_)
      · rcases Nat.eq_zero_or_pos (D 4) with h4 | h4
        · refine c_isLaid0 hc h4 ?_
          refine m_mark hn hw hi k1 k5 hU (fun M3 f3 => ?_)
          rw [h4]
          exact ⟨⟨_, rfl, rfl⟩, Rel_frA hR (frA_S f3 (by omega))⟩
        · refine c_isLaid1 hc hb h4 ?_
          refine c_pursue hl hc hw (fun M1 f1 h1 => ?_)
          have f1' := frA_S f1 (by omega)
          have hl1 := frA_ld f1' hl
          have hc1 := frA_cr f1' (by omega) hc
          have hn1 := frA_nw f1' (by omega) (by omega) hn
          have fin : ∀ v : Int32, v = nI (sm (inc D i kind) (D 4 - 1)) → ab_Call (d + 5) 204 [vr 49 0, vi (nI i), vi (nI kind)] M1 (fun r2 M2 => (∃ v', some (vi v) = some (vi v') ∧ r2 = some (vi v')) ∧ Rel M2) := by
            intro v hv
            refine m_mark hn1 hw hi k1 k5 hU (fun M3 f3 => ?_)
            rw [hv]
            exact ⟨⟨_, rfl, rfl⟩, Rel_frA (Rel_frA hR f1') (frA_S f3 (by omega))⟩
          obtain ⟨x1, x2, x3⟩ := h1.2.2.2.2.2 i hi
          refine And.intro (fun q => ?_) (And.intro (fun q => ?_) (And.intro (fun q => ?_) (And.intro (fun q => ?_) (And.intro (fun q => ?_) trivial))))
          · rw [nI_toInt (by omega)] at q
            have q : kind = 5 := by simp at q; omega
            subst q
            refine c_last hc1 h4 ?_
            refine fin _ ?_
            congr 1
            have : ∀ n, sm (inc D i 5) n = n := by
              intro n
              induction n with
              | zero => rfl
              | succ n ih => rw [sm, ih]; rfl
            rw [this]
          · have q : kind = 1 := neq_use (a := kind) (b := 1) q
            subst q
            refine c_minutesFor (kd := 0) rfl hl1 hc1 hw (by omega) h4 ?_
            refine c_minutesFor (kd := 1) rfl hl1 hc1 hw (by omega) h4 ?_
            refine fin _ ?_
            have h0 : ∀ k, k < D 4 - 1 → pce 1 (sg D k) ≤ pce 0 (sg D k) := fun k hk => by
              have := hw.2.2.2.2.2.2.2.1 k (by omega)
              exact pce1_le (m := sg D k) this
            obtain ⟨g1, g2⟩ := sm_sub h0
            rw [pk_sub g1, g2]
            rfl
          · have q : kind = 2 := neq_use (a := kind) (b := 2) q
            subst q
            refine ix_i i rfl (show i < 4 by omega) ?_
            exact fin _ x2
          · have q : kind = 3 := neq_use (a := kind) (b := 3) q
            subst q
            refine ix_i i rfl (show i < 4 by omega) ?_
            refine c_bitCount x3 (Nat.lt_of_lt_of_le (bs_lt _ _) (Nat.pow_le_pow_right (by omega) hb5)) ?_
            exact fin _ (by rw [mark3 hw (by omega)])
          · have q : kind = 4 := neq_use (a := kind) (b := 4) q
            subst q
            refine ix_i i rfl (show i < 4 by omega) ?_
            refine fin _ (x1.trans ?_)
            congr 1
            refine sm_cong fun j hj => ?_
            have hk4 : kds D i = 4 := by omega
            unfold lsf
            rw [cal_ns (by rw [hk4]; rfl), hk4]
            show lo D 4 j = b1 (ck D j)
            unfold lo b1
            rfl
      · refine c_refuse (f := 3) (by omega) (by omega) ?_
        refine ab_Call_nr (caX10_mark rfl (atX10_mark (m_isHound1 (D := D) (fun k hk => hn k hk) hi w1 (c_in1 (lo := 1) (hi := 5) rfl rfl k1 k5 (by omega) ?_))))
        refine ix_i (6 + i) (by simp only [nI_add]) (show _ < 78 by omega) ?_
        rw [show (rfC M 3).1 54 0 (6 + i) = nI (kds D i) from e6]
        refine m_isOf hkd k5 (fun w => absurd w hU) (fun _ => ?_)
        refine m_found (f := 3) (by omega) (by omega) ?_
        exact ⟨⟨_, rfl, rfl⟩, Rel_rf 3 hR⟩
    · have hm : ab_Call (d + 5) 204 [vr 49 0, vi (nI i), vi y] M (fun r2 M2 => (∃ v, some (vi (-1)) = some (vi v) ∧ r2 = some (vi v)) ∧ Rel M2) := by
        refine ab_Call_nr (caX10_mark rfl (atX10_mark (m_isHound1 hn hi w1 ?_)))
        refine c_in (a := nI 1) (b := nI 5) rfl rfl (fun q1 q2 => ?_) (fun _ => ?_)
        · obtain ⟨j, hj, rfl⟩ := i_of_ge (i_le_trans (by decide) q1)
          exact absurd ⟨j, nle_use q1, nle_use q2, rfl⟩ hy
        · exact ⟨⟨_, rfl, rfl⟩, hR⟩
      refine ab_Call_nr (caX9_mark rfl (atX9_mark (c_hasHound1 hl hi w1 ?_)))
      refine And.intro (fun _ => hm) (fun q => And.intro (fun q2 => ?_) (fun _ => hm))
      obtain ⟨j, hj, rfl⟩ := i_of_ge (Int32.le_of_lt q)
      exact absurd ⟨j, by have := nlt_use q; omega, by have := nlt_use q2; omega, rfl⟩ hy
  · refine ab_Call_nr (caX9_mark rfl (atX9_mark (c_hasHound0 hl w1 hx ?_)))
    refine ab_Call_nr (caX10_mark rfl (atX10_mark (m_isHound0 hn w1 hx ?_)))
    exact ⟨⟨_, rfl, rfl⟩, hR⟩
end Mark2
