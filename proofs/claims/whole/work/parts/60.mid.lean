/-! ===== fractions told ===== -/
section Frac
variable {d : Nat} {M : ab_M} {K : ab_K} {D : Nat → Nat}
theorem c_tellFraction {a b : Nat} {u v : Int64} (hu : u = lN a) (hv : v = lN b) (ha : a < 2 ^ 31) (hb : b < 2 ^ 31) (hb0 : 0 < b) (hK : K (some (vi (nI 1))) (ab_sJ (ab_sJ M 0 0 15 (lN (a / Nat.gcd a b))) 0 0 16 (lN (b / Nat.gcd a b)))) : ab_Call (d + 1) 152 [vr 0 0, vl u, vl v] M K := by
  subst hu
  subst hv
  refine ab_Call_nr (caX9_tellFraction rfl (atX9_tellFraction ?_))
  refine c_commonOf ha hb ?_
  have g0 : 0 < Nat.gcd a b := Nat.gcd_pos_of_pos_right a hb0
  have g1 : Nat.gcd a b ≤ b := Nat.gcd_le_right a hb0
  have ne : ¬ lN (Nat.gcd a b) = 0 := fun w => by have := (lN_eq (a := Nat.gcd a b) (b := 0) (by omega) (by omega)).mp w; omega
  refine And.intro (fun q => ?_) (And.intro (fun q => absurd q ne) (fun q => ?_))
  · have : Nat.gcd a b < 0 := (lN_lt (a := Nat.gcd a b) (b := 0) (by omega) (by omega)).mp q
    omega
  · refine And.intro ne ?_
    refine And.intro ne ?_
    rw [← pk_lDiv (by omega) g0 (by omega), ← pk_lDiv (by omega) g0 (by omega)] at hK
    exact hK
theorem m_fraction {a b : Nat} {u v : Int64} (hu : u = lN a) (hv : v = lN b) (ha : a < 2 ^ 31) (hb : b < 2 ^ 31) (hb0 : 0 < b) (hK : K (some (vi (nI 1))) (ab_sJ (ab_sJ M 49 0 8 (lN (a / Nat.gcd a b))) 49 0 9 (lN (b / Nat.gcd a b)))) : ab_Call d 249 [vr 49 0, vl u, vl v] M K := by
  subst hu
  subst hv
  refine ab_Call_nr (caX10_fraction rfl (atX10_fraction ?_))
  have g0 : 0 < Nat.gcd a b := Nat.gcd_pos_of_pos_right a hb0
  have g1 : Nat.gcd a b ≤ b := Nat.gcd_le_right a hb0
  have ne : ¬ lN (Nat.gcd a b) = 0 := fun w => by have := (lN_eq (a := Nat.gcd a b) (b := 0) (by omega) (by omega)).mp w; omega
  rw [← pk_lDiv (by omega) g0 (by omega), ← pk_lDiv (by omega) g0 (by omega)] at hK
  have key : ∀ n y, y ≤ n → ∀ x, x < 2 ^ 31 → y < 2 ^ 31 → Nat.gcd x y = Nat.gcd a b → ab_At miX10_fraction d 6 [some (vr 49 0), some (vl (lN a)), none, some (vl (lN b)), none, some (vl (lN x)), none, some (vl (lN y))] [] M (fun r M => K (r.map ab_nr) M) := by
    intro n
    induction n with
    | zero =>
      intro y hy x hx _ hg
      have : y = 0 := Nat.le_zero.mp hy
      subst this
      refine atX10_fraction ?_
      rw [Nat.gcd_zero_right] at hg
      subst hg
      refine And.intro (fun q => absurd (show lN 0 < lN 0 from q) (by decide)) (And.intro (fun _ => ?_) (fun q => absurd (show lN 0 < lN 0 from q) (by decide)))
      exact And.intro ne (And.intro ne hK)
    | succ n ih =>
      intro y hy x hx hy2 hg
      rcases Nat.eq_zero_or_pos y with h0 | h0
      · subst h0
        exact ih 0 (by omega) x hx (by omega) hg
      · refine atX10_fraction ?_
        have hr := Nat.mod_lt x h0
        have e := lN_rem (a := x) (b := y) (by omega) (by omega) h0
        have ney : ¬ lN y = 0 := fun w => by have := (lN_eq (a := y) (b := 0) hy2 (by omega)).mp w; omega
        have := ih (x % y) (by omega) y hy2 (by omega) (by rw [← gcd_st, hg])
        rw [← e] at this
        refine And.intro (fun q => ?_) (And.intro (fun q => absurd q ney) (fun q => ?_))
        · have : y < 0 := (lN_lt (a := y) (b := 0) hy2 (by omega)).mp q
          omega
        · exact And.intro ney this
  exact key b b (Nat.le_refl _) a ha hb rfl
theorem Rel_frac {u v : Int64} (h : Rel M) : Rel (ab_sJ (ab_sJ (ab_sJ (ab_sJ M 0 0 15 u) 0 0 16 v) 49 0 8 u) 49 0 9 v) :=
  Rel_of h (rw_fr h.1 rfl rfl rfl rfl) (tx_fr h.2.1 rfl rfl rfl rfl) ⟨h.2.2.1.1, rfl, rfl, h.2.2.1.2.2.2.1, h.2.2.1.2.2.2.2⟩ rfl (frD_lit rfl rfl rfl rfl rfl rfl rfl rfl rfl rfl rfl rfl)
theorem mid_sum (hw : wf D) (h4 : 0 < D 4) (kd : Nat) : D 3 + sm (fun j => pce kd (sg D j)) (D 4 - 1) + sm (fun k => sm (fun e => if eap D k e then 2 * D (69 + e) else 0) (D 5) / 2 + (if wy D k then 2 else 0)) (D 4 - 1) = mn0 D kd + sm (fun e => D (69 + e)) (D 5) := by
  have e1 : ∀ k, sm (fun e => if eap D k e then 2 * D (69 + e) else 0) (D 5) / 2 = pa D (D (46 + k)) (D 5) := by
    intro k
    have : ∀ n, sm (fun e => if eap D k e then 2 * D (69 + e) else 0) n = 2 * pa D (D (46 + k)) n := by
      intro n
      induction n with
      | zero => rfl
      | succ n ih =>
        rw [sm, ih]
        show _ = 2 * (pa D (D (46 + k)) n + if D (53 + n) = D (46 + k) then D (69 + n) else 0)
        unfold eap
        by_cases q : D (53 + n) = D (46 + k)
        · simp only [q, decide_true, if_true]; omega
        · simp only [q, decide_false, if_false]; rfl
    rw [this]
    omega
  have e2 : sm (fun k => sm (fun e => if eap D k e then 2 * D (69 + e) else 0) (D 5) / 2 + (if wy D k then 2 else 0)) (D 4 - 1) = sm (fun k => pa D (D (46 + k)) (D 5)) (D 4 - 1) + sm (fun k => if wy D k then 2 else 0) (D 4 - 1) := by
    rw [← sm_add]
    exact sm_cong (fun k _ => by rw [e1 k])
  rw [e2]
  have h := pu_all hw h4
  unfold pu at h
  rw [sm_add] at h
  unfold hrs at h
  unfold mn0
  have h2 : sm (fun j => sg D j) (D 4 - 1) = sm (sg D) (D 4 - 1) := rfl
  omega
theorem op_mid {x : Int32} (hR : Rel M) : OpI (d + 5) 139 254 [vi x] M := by
  obtain ⟨D, hw, hw2, hw3, hl, hc, hn, hk⟩ := Rel_D hR
  have hb := bnd_of hw
  have hb4 := hb.2.1
  have hb5 := hb.2.2.1
  have w1 : D 1 ≤ 4 := hw.1.2.1
  rcases ix_cases x (n := D 1) (by omega) with ⟨i, hi, rfl⟩ | hx
  · have hkd : kds D i ≤ 5 := hw.1.2.2.2.1 i hi
    have e10 : M.1 10 0 i = nI (kds D i) := hl.2.2.2.1 i hi
    rcases Nat.eq_zero_or_pos (D 4) with h4 | h4
    · refine ab_Call_nr (caX9_mid rfl (atX9_mid (c_hasHound1 hl hi w1 (c_isLaid0 hc h4 ?_))))
      refine ab_Call_nr (caX10_mid rfl (atX10_mid (m_isHound1 hn hi w1 (m_hasTrail0 hn h4 ?_))))
      exact ⟨⟨_, rfl, rfl⟩, hR⟩
    · refine ab_Call_nr (caX9_mid rfl (atX9_mid (c_hasHound1 hl hi w1 (c_isLaid1 hc hb h4 ?_))))
      refine ix_i i rfl (show i < 4 by omega) ?_
      refine c_meanMinute e10 hl hc hw hkd h4 ?_
      have hm := mn0_le hw (kds D i)
      have hs : sm (fun e => D (69 + e)) (D 5) ≤ D 5 * 5 := sm_le (fun e he => (hb.2.2.2.2.2 e he).2.2)
      have eL : ∀ n, n < 2 ^ 31 → (nI n).toInt64 = lN n := fun n hn => nI_l hn
      refine c_tellFraction (eL _ (by omega)) (b := 1) rfl (by omega) (by omega) (by omega) ?_
      generalize hu : lN ((mn0 D (kds D i) + sm (fun e => D (69 + e)) (D 5)) / Nat.gcd (mn0 D (kds D i) + sm (fun e => D (69 + e)) (D 5)) 1) = u
      generalize hv : lN (1 / Nat.gcd (mn0 D (kds D i) + sm (fun e => D (69 + e)) (D 5)) 1) = v
      have hn1 : nwM (ab_sJ (ab_sJ M 0 0 15 u) 0 0 16 v) 54 0 D := fun k hk => hn k hk
      generalize hM1 : ab_sJ (ab_sJ M 0 0 15 u) 0 0 16 v = M1 at hn1 ⊢
      refine ab_Call_nr (caX10_mid rfl (atX10_mid (m_isHound1 hn1 hi w1 (m_hasTrail1 hn1 h4 hb4 ?_))))
      refine ix_i (6 + i) (by simp only [nI_add]) (show _ < 78 by omega) ?_
      refine m_straight (kd := kds D i) (nw hn1 (by omega)) hn1 hw hkd ?_
      have key : ∀ j, j ≤ D 4 - 1 → ab_At miX10_mid (d + 5) 36 [some (vr 49 0), none, some (vi (nI (D 3 + sm (fun j => pce (kds D i) (sg D j)) (D 4 - 1) + sm (fun k => sm (fun e => if eap D k e then 2 * D (69 + e) else 0) (D 5) / 2 + (if wy D k then 2 else 0)) j))), some (vi (nI j))] [] M1 (fun r2 M2 => (∃ v, some (vi (nI 1)) = some (vi v) ∧ r2.map ab_nr = some (vi v)) ∧ Rel M2) := by
        refine up_ind fun j hj ih => ?_
        refine atX10_mid ?_
        refine And.intro (fun h => ?_) (fun h => ?_)
        · rw [nw hn1 (by omega), nI_sub1 (by omega) (by omega)] at h
          have : j = D 4 - 1 := by omega
          subst this
          rw [mid_sum hw h4]
          refine m_fraction (eL _ (by omega)) (b := 1) rfl (by omega) (by omega) (by omega) ?_
          rw [hu, hv, ← hM1]
          exact ⟨⟨_, rfl, rfl⟩, Rel_frac hR⟩
        · rw [nw hn1 (by omega), nI_sub1_lt (by omega) (by omega)] at h
          refine m_endsAt hn1 hb (by omega) ?_
          refine m_lasting hn1 hb rfl ?_
          refine And.intro (by decide) ?_
          refine ix_i (46 + j) (by simp only [nI_add]) (show _ < 78 by omega) ?_
          have := ih (by omega)
          have hsm : sm (fun e => if eap D j e then 2 * D (69 + e) else 0) (D 5) ≤ D 5 * 10 := sm_le (fun e he => by have := (hb.2.2.2.2.2 e he).2.2; split <;> omega)
          have es : nI (D 3 + sm (fun j => pce (kds D i) (sg D j)) (D 4 - 1) + sm (fun k => sm (fun e => if eap D k e then 2 * D (69 + e) else 0) (D 5) / 2 + (if wy D k then 2 else 0)) (j + 1)) = nI (D 3 + sm (fun j => pce (kds D i) (sg D j)) (D 4 - 1) + sm (fun k => sm (fun e => if eap D k e then 2 * D (69 + e) else 0) (D 5) / 2 + (if wy D k then 2 else 0)) j) + (nI (sm (fun e => if eap D j e then 2 * D (69 + e) else 0) (D 5)) / nI 2 + nI (if wy D j then 2 else 0)) := by
            rw [pk_div (by omega) (by omega) (by omega), nI_add, nI_add, Nat.add_assoc (D 3 + sm (fun j => pce (kds D i) (sg D j)) (D 4 - 1))]
            rfl
          rw [← nI_1 j, es] at this
          refine m_isWindy_e (nw hn1 (by omega)) hn1 hb.2.2.2.1 (hb.2.2.2.2.1 j (by omega)) (fun q => ?_) (fun q => ?_)
          · rw [wy_1 q] at this
            exact this
          · rw [wy_0 q] at this
            exact this
      exact key 0 (Nat.zero_le _)
  · refine ab_Call_nr (caX9_mid rfl (atX9_mid (c_hasHound0 hl w1 hx ?_)))
    refine ab_Call_nr (caX10_mid rfl (atX10_mid (m_isHound0 hn w1 hx ?_)))
    exact ⟨⟨_, rfl, rfl⟩, hR⟩
end Frac
