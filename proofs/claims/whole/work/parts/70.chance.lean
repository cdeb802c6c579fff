/-! ===== chance ===== -/
theorem Rel_w {M M' : ab_M} (hR : Rel M) (h1 : M'.1 = M.1) (h2 : ∀ g i k, g ≠ 67 → M'.2.1 g i k = M.2.1 g i k) (hx : wx_ok M') : Rel M' := by
  obtain ⟨a1, a2, a3, a4, D, hr⟩ := hR
  refine ⟨?_, ?_, ?_, ?_, D, ?_⟩
  · unfold rw_ok at *; rw [h1]; exact a1
  · unfold tx_ok at *; rw [h1]; exact a2
  · unfold sc_ok at *; rw [h1, h2 0 0 15 (by omega), h2 49 0 8 (by omega), h2 0 0 16 (by omega), h2 49 0 9 (by omega)]; exact a3
  · unfold fc_ok at *
    rw [h1]
    obtain ⟨c0, c1, c2, c3, c4, c5, -⟩ := a4
    exact ⟨c0, c1, c2, c3, c4, c5, hx⟩
  · unfold ldC crC nwM kp_ok crC nwM at *
    rw [h1]
    exact hr
section Chance
variable {d : Nat} {M : ab_M} {K : ab_K} {D : Nat → Nat}
theorem wx_ne {M : ab_M} (h : wx_ok M) : M.2.2 49 0 27 ≠ M.2.2 49 0 28 := by
  rcases h with ⟨a, b⟩ | ⟨a, b⟩ <;> rw [a, b] <;> decide
def stt (D : Nat → Nat) (i : Nat) : Nat := D 3 + sm (fun j => pce (kds D i) (sg D j)) (D 4 - 1)
theorem m_chance {i mi : Nat} (hn : nwM M 54 0 D) (hw : wf D) (hi : i < D 1) (hmi : mi < 1000) (h4 : 0 < D 4) (hx : wx_ok M) (hK : ∀ M', M'.1 = M.1 → (∀ g i k, g ≠ 67 → M'.2.1 g i k = M.2.1 g i k) → wx_ok M' → K (some (vi (nI 1))) (ab_sJ (ab_sJ M' 49 0 8 (lN (sm (fun t => if stt D i + t ≤ mi then Wf D (D 4 - 1) t else 0) 128 / Nat.gcd (sm (fun t => if stt D i + t ≤ mi then Wf D (D 4 - 1) t else 0) 128) (prf D (D 4 - 1))))) 49 0 9 (lN (prf D (D 4 - 1) / Nat.gcd (sm (fun t => if stt D i + t ≤ mi then Wf D (D 4 - 1) t else 0) 128) (prf D (D 4 - 1)))))) : ab_Call (d + 5) 253 [vr 49 0, vi (nI i), vi (nI mi)] M K := by
  refine ab_Call_nr (caX10_chance rfl (atX10_chance ?_))
  have hb := bnd_of hw
  have hb' := hb
  obtain ⟨b3, b4, b5, b6, b7, b8⟩ := hb'
  have w1 : D 1 ≤ 4 := hw.1.2.1
  have hkd : kds D i ≤ 5 := hw.1.2.2.2.1 i hi
  refine m_isHound1 hn hi w1 ?_
  refine c_inP (n := 1000) rfl rfl hmi (by omega) ?_
  refine m_hasTrail1 hn h4 b4 ?_
  have hst : stt D i ≤ 9 + 6 * 19 := by
    have : sm (fun j => pce (kds D i) (sg D j)) (D 4 - 1) ≤ (D 4 - 1) * 19 := sm_le (fun j _ => pce_le (sg_le hw.1 j))
    unfold stt
    omega
  have lst : ∀ M1, M1.1 = M.1 → (∀ g i k, g ≠ 67 → M1.2.1 g i k = M.2.1 g i k) → wx_ok M1 → (∀ t, t < 128 → M1.2.1 67 (M1.2.2 49 0 27) t = lN (Wf D (D 4 - 1) t)) → ∀ m, m ≤ 128 → ab_At miX10_chance (d + 5) 115 [some (vr 49 0), some (vi (nI i)), some (vi (nI mi)), some (vl (lN (prf D (D 4 - 1)))), none, some (vl (lN (sm (fun t => if stt D i + t ≤ mi then Wf D (D 4 - 1) t else 0) m))), none, some (vi (nI m))] [] M1 (fun r M => K (r.map ab_nr) M) := by
    intro M1 e1 e2 hx1 hW
    have hn1 : nwM M1 54 0 D := fun k hk => by rw [e1]; exact hn k hk
    refine up_ind fun m hm ih => ?_
    refine atX10_chance ?_
    refine And.intro (fun q => ?_) (fun q => ?_)
    · have : m = 128 := by have := nle_use (a := 128) q; omega
      subst this
      exact m_fraction rfl rfl (part_bd hw _ _) (whole_bd hw).2 (whole_bd hw).1 (hK M1 e1 e2 hx1)
    · have q := nlt_use (b := 128) q
      refine ix_i (6 + i) (by simp only [nI_add]) (show _ < 78 by omega) ?_
      refine m_straight (kd := kds D i) (nw hn1 (by omega)) hn1 hw hkd ?_
      have := ih q
      rw [← nI_1 m, sm, ← lN_add] at this
      have es : nI (D 3 + sm (fun j => pce (kds D i) (sg D j)) (D 4 - 1)) + nI m = nI (stt D i + m) := nI_add _ _
      refine And.intro (fun q => ?_) (fun q => ?_)
      · have q : nI mi < nI (stt D i + m) := by rw [← es]; exact q
        have q := nlt_use q
        rw [if_neg (by omega)] at this
        exact this
      · have q : nI (stt D i + m) ≤ nI mi := by rw [← es]; exact q
        have q := nle_use q
        refine ix_i m rfl (show _ < 128 by omega) ?_
        rw [if_pos q, ← hW m (by omega)] at this
        exact this
  have mid : ∀ k, k ≤ D 4 - 1 → ∀ M1, M1.1 = M.1 → (∀ g i k, g ≠ 67 → M1.2.1 g i k = M.2.1 g i k) → wx_ok M1 → (∀ t, t < 128 → M1.2.1 67 (M1.2.2 49 0 27) t = lN (Wf D k t)) → ab_At miX10_chance (d + 5) 67 [some (vr 49 0), some (vi (nI i)), some (vi (nI mi)), some (vl (lN (prf D k))), none, some (vi (nI k))] [] M1 (fun r M => K (r.map ab_nr) M) := by
    refine up_ind fun k hk ih M1 e1 e2 hx1 hW => ?_
    have hn1 : nwM M1 54 0 D := fun k hk => by rw [e1]; exact hn k hk
    refine atX10_chance ?_
    refine And.intro (fun q => ?_) (fun q => ?_)
    · rw [nw hn1 (by omega), nI_sub1 (by omega) (by omega)] at q
      have : k = D 4 - 1 := by omega
      subst this
      exact lst M1 e1 e2 hx1 hW 0 (Nat.zero_le _)
    · rw [nw hn1 (by omega), nI_sub1_lt (by omega) (by omega)] at q
      refine m_spreads hn1 hw q (wx_ne hx1) hW (fun F hF => ?_)
      have := ih (by omega) (ab_sX (ab_sX (sL M1 (M1.2.2 49 0 28) F) 49 0 27 (M1.2.2 49 0 28)) 49 0 28 (M1.2.2 49 0 27)) e1 (fun g i c hg => by
          show (if g = 67 ∧ i = _ then _ else _) = _
          rw [if_neg (fun w => hg w.1)]
          exact e2 g i c hg) (by
          rcases hx1 with ⟨a, b⟩ | ⟨a, b⟩
          · exact Or.inr ⟨b, a⟩
          · exact Or.inl ⟨b, a⟩) (fun t ht => by
          exact (sL_at (M := M1) (o := M1.2.2 49 0 28) (F := F) (c := t)).trans (hF t ht))
      have hn2 : nwM (ab_sX (ab_sX (sL M1 (M1.2.2 49 0 28) F) 49 0 27 (M1.2.2 49 0 28)) 49 0 28 (M1.2.2 49 0 27)) 54 0 D := hn1
      generalize ab_sX (ab_sX (sL M1 (M1.2.2 49 0 28) F) 49 0 27 (M1.2.2 49 0 28)) 49 0 28 (M1.2.2 49 0 27) = M2 at this hn2 ⊢
      have l8 : (2 : Nat) ^ D 5 ≤ 2 ^ 8 := Nat.pow_le_pow_right (by omega) b5
      have hal := bs_lt (eap D k) (D 5)
      have hcn : cN D k ≤ 8 := by
        have : cN D k ≤ D 5 * 1 := sm_le (fun e _ => by unfold b1; split <;> omega)
        omega
      refine m_endsAt hn2 hb (by omega) ?_
      refine m_bits rfl (by omega) ?_
      rw [pc8_bs b5]
      refine m_factorial (n := cN D k + 1) (nI_add (cN D k) 1) (by omega) ?_
      rw [← nI_1 k, prf, ← lN_mul] at this
      exact this
  have ini : ∀ m, m ≤ 128 → ∀ F : Nat → Int64, (∀ c, c < m → F c = lN (Wf D 0 c)) → ab_At miX10_chance (d + 5) 34 [some (vr 49 0), some (vi (nI i)), some (vi (nI mi)), some (vi (nI m))] [] (sL M (M.2.2 49 0 27) F) (fun r M => K (r.map ab_nr) M) := by
    refine up_ind fun m hm ih F hF => ?_
    refine atX10_chance ?_
    refine And.intro (fun q => ?_) (fun q => ?_)
    · have : m = 128 := by have := nle_use (a := 128) q; omega
      subst this
      exact mid 0 (Nat.zero_le _) _ rfl (fun g i c hg => by
        show (if g = 67 ∧ i = _ then _ else _) = _
        rw [if_neg (fun w => hg w.1)]) hx (fun t ht => by
        exact (sL_at (M := M) (o := M.2.2 49 0 27) (F := F) (c := t)).trans (hF t ht))
    · have q := nlt_use (b := 128) q
      have go : ∀ v, v = lN (Wf D 0 m) → ab_At miX10_chance (d + 5) 34 [some (vr 49 0), some (vi (nI i)), some (vi (nI mi)), some (vi (nI m + nI 1))] [] (ab_sJ (sL M (M.2.2 49 0 27) F) 67 (M.2.2 49 0 27) m v) (fun r M => K (r.map ab_nr) M) := by
        intro v hv
        have := ih q (fun x => if x = m then v else F x) (fun c hc => by
          show (if c = m then _ else _) = _
          by_cases w : c = m
          · rw [if_pos w, w]; exact hv
          · rw [if_neg w]; exact hF c (by omega))
        rw [← nI_1 m, ← sL_set] at this
        exact this
      refine And.intro (fun q2 => ?_) (fun q2 => ?_)
      · have q2 := nne_use (a := m) (b := 0) q2
        refine ix_i m rfl (show _ < 128 by omega) ?_
        exact go (lN 0) (by rw [Wf_0, if_neg q2])
      · have q2 := neq_use (a := m) (b := 0) q2
        refine ix_i m rfl (show _ < 128 by omega) ?_
        exact go (lN 1) (by rw [Wf_0, if_pos q2])
  have := ini 0 (Nat.zero_le _) (M.2.1 67 (M.2.2 49 0 27)) (fun c hc => absurd hc (by omega))
  rw [sL_self] at this
  exact this
theorem op_chance {x y : Int32} (hR : Rel M) : OpI (d + 5) 138 253 [vi x, vi y] M := by
  obtain ⟨D, hw, hw2, hw3, hl, hc, hn, hk⟩ := Rel_D hR
  have hb := bnd_of hw
  have hb4 := hb.2.1
  have w1 : D 1 ≤ 4 := hw.1.2.1
  have hfc := hR.2.2.2.1
  rcases ix_cases x (n := D 1) (by omega) with ⟨i, hi, rfl⟩ | hx
  · rcases ix_cases y (n := 1000) (by omega) with ⟨mi, hmi, rfl⟩ | hy
    · have hkd : kds D i ≤ 5 := hw.1.2.2.2.1 i hi
      have e10 : M.1 10 0 i = nI (kds D i) := hl.2.2.2.1 i hi
      refine ab_Call_nr (caX9_chance rfl (atX9_chance (c_hasHound1 hl hi w1 ?_)))
      refine And.intro (fun q => absurd q (nI_pos (by omega))) (fun _ => ?_)
      refine And.intro (fun _ => ?_) (fun q => absurd (nlt_use (a := 999) q) (by omega))
      rcases Nat.eq_zero_or_pos (D 4) with h4 | h4
      · refine c_isLaid0 hc h4 ?_
        refine ab_Call_nr (caX10_chance rfl (atX10_chance (m_isHound1 hn hi w1 (c_inP (n := 1000) rfl rfl hmi (by omega) (m_hasTrail0 hn h4 ?_)))))
        exact ⟨⟨_, rfl, rfl⟩, hR⟩
      · refine c_isLaid1 hc hb h4 ?_
        refine ix_i i rfl (show i < 4 by omega) ?_
        refine c_leastMinute e10 hl hc hw hkd h4 ?_
        have hmn := mn0_le hw (kds D i)
        refine c_weigh (b := mn0 D (kds D i)) (mi := mi) hc hw h4 hfc (fun a ha => by
          rw [Int32.lt_iff_toInt_lt, pk_sub_toInt (by omega) (by omega), nI_toInt (by omega)]
          omega) (fun M1 f1 => ?_)
        have ep : sm (fun s => if mn0 D (kds D i) + lsS D (fun e => s.testBit e) ≤ mi then prd D (fun e => s.testBit e) (D 4 - 1) else 0) (2 ^ D 5) = sm (fun t => if stt D i + t ≤ mi then Wf D (D 4 - 1) t else 0) 128 := by
          rw [part_eq hw]
          refine sm_cong (fun s _ => ?_)
          have : mn0 D (kds D i) + lsS D (fun e => s.testBit e) = stt D i + (lsS D (fun e => s.testBit e) + wd D (D 4 - 1)) := by
            unfold mn0 stt wd
            omega
          rw [this]
        rw [ep, ← whole_eq hw]
        have f2 : frA M (pwM M1 (lN (sm (fun t => if stt D i + t ≤ mi then Wf D (D 4 - 1) t else 0) 128)) (lN (prf D (D 4 - 1)))) := by
          have f3 := frA_S f1 (by omega)
          refine ⟨f3.1, fun g i k q q2 => ?_, f3.2.2⟩
          show (if g = 46 ∧ _ then _ else if g = 46 ∧ _ then _ else _) = _
          rw [if_neg (fun w => q w.1), if_neg (fun w => q w.1)]
          exact f3.2.1 g i k q q2
        refine c_tellFraction rfl rfl (part_bd hw _ _) (whole_bd hw).2 (whole_bd hw).1 ?_
        generalize pwM M1 (lN (sm (fun t => if stt D i + t ≤ mi then Wf D (D 4 - 1) t else 0) 128)) (lN (prf D (D 4 - 1))) = P at f2 ⊢
        have hRP := Rel_frA hR f2
        have hn1 : nwM P 54 0 D := frA_nw f2 (by omega) (by omega) hn
        have hxP : wx_ok P := hRP.2.2.2.1.2.2.2.2.2.2
        generalize hu : lN (sm (fun t => if stt D i + t ≤ mi then Wf D (D 4 - 1) t else 0) 128 / Nat.gcd (sm (fun t => if stt D i + t ≤ mi then Wf D (D 4 - 1) t else 0) 128) (prf D (D 4 - 1))) = u
        generalize hv : lN (prf D (D 4 - 1) / Nat.gcd (sm (fun t => if stt D i + t ≤ mi then Wf D (D 4 - 1) t else 0) 128) (prf D (D 4 - 1))) = v
        refine m_chance (M := ab_sJ (ab_sJ P 0 0 15 u) 0 0 16 v) (D := D) hn1 hw hi hmi h4 hxP (fun M' g1 g2 g3 => ?_)
        rw [hu, hv]
        refine ⟨⟨_, rfl, rfl⟩, Rel_w (Rel_frac (u := u) (v := v) hRP) g1 (fun g i k hg => ?_) g3⟩
        show (if g = 49 ∧ i = 0 ∧ k = 9 then v else if g = 49 ∧ i = 0 ∧ k = 8 then u else M'.2.1 g i k) = if g = 49 ∧ i = 0 ∧ k = 9 then v else if g = 49 ∧ i = 0 ∧ k = 8 then u else (ab_sJ (ab_sJ P 0 0 15 u) 0 0 16 v).2.1 g i k
        rw [g2 g i k hg]
    · refine ab_Call_nr (caX9_chance rfl (atX9_chance (c_hasHound1 hl hi w1 ?_)))
      have tail : ab_Call (d + 5) 253 [vr 49 0, vi (nI i), vi y] M (fun r2 M2 => (∃ v, some (vi (-1)) = some (vi v) ∧ r2 = some (vi v)) ∧ Rel M2) := by
        refine ab_Call_nr (caX10_chance rfl (atX10_chance (m_isHound1 hn hi w1 (c_in0 (n := 1000) rfl rfl (by omega) hy ?_))))
        exact ⟨⟨_, rfl, rfl⟩, hR⟩
      refine And.intro (fun q => tail) (fun q => ?_)
      refine And.intro (fun q2 => ?_) (fun q => tail)
      obtain ⟨j, hj, rfl⟩ := i_of_ge q
      exact absurd rfl (hy j (by have := nle_use (b := 999) q2; omega))
  · refine ab_Call_nr (caX9_chance rfl (atX9_chance (c_hasHound0 hl w1 hx ?_)))
    refine ab_Call_nr (caX10_chance rfl (atX10_chance (m_isHound0 hn w1 hx ?_)))
    exact ⟨⟨_, rfl, rfl⟩, hR⟩
end Chance
