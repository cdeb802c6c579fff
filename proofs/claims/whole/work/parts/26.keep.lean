/-! ===== places of the trail; what is kept ===== -/
def cpf (f g : Nat → Int32) (a b n : Nat) : Nat → Int32 := fun x => if b ≤ x ∧ x < b + n then f (a + (x - b)) else g x
theorem cpf_0 (f g : Nat → Int32) (a b : Nat) : cpf f g a b 0 = g := by
  funext x
  exact if_neg (by omega)
theorem cpf_s (f g : Nat → Int32) (a b n : Nat) : upd (cpf f g a b n) (b + n) (f (a + n)) = cpf f g a b (n + 1) := by
  funext x
  by_cases hx : x = b + n
  · subst hx
    rw [upd_eq]
    unfold cpf
    rw [if_pos ⟨by omega, by omega⟩, Nat.add_sub_cancel_left]
  · rw [upd_ne hx]
    unfold cpf
    by_cases h2 : b ≤ x ∧ x < b + n
    · rw [if_pos h2, if_pos ⟨h2.1, by omega⟩]
    · rw [if_neg h2, if_neg (by omega)]
section Keep
variable {d : Nat} {M : ab_M} {K : ab_K} {D : Nat → Nat}
theorem c_ra_neg {x : Int32} (h : x < nI 0) (hK : K (some (.inl (-1))) M) : ab_Call (d + 1) 155 [vr 0 0, vi x] M K := by
  refine caX9_refusalAt rfl (atX9_refusalAt ?_)
  exact And.intro (fun q => absurd q (i_not_le h)) (fun _ => hK)
theorem c_ra_no {x : Int32} (h : nI 0 ≤ x) (hc : crC M 0 D) (h4 : D 4 = 0) (hK : K (some (.inl (-4))) M) : ab_Call (d + 1) 155 [vr 0 0, vi x] M K := by
  refine caX9_refusalAt rfl (atX9_refusalAt ?_)
  refine And.intro (fun _ => ?_) (fun q => absurd q (fun q => i_lt_le q h))
  exact c_isLaid0 hc h4 hK
theorem c_ra_be {x : Int32} (h : nI (D 4) ≤ x) (hc : crC M 0 D) (hb : bnd D) (h4 : 0 < D 4) (hK : K (some (.inl (-3))) (rfC M 2)) : ab_Call (d + 1) 155 [vr 0 0, vi x] M K := by
  refine caX9_refusalAt rfl (atX9_refusalAt ?_)
  have := hb.2.1
  refine And.intro (fun _ => ?_) (fun q => absurd q (fun q => i_lt_le q (i_le_trans (nI_le (by omega) (by omega)) h)))
  refine c_isLaid1 hc hb h4 ?_
  refine And.intro (fun _ => c_refuse (by omega) (by omega) hK) (fun q => absurd q (fun q => i_lt_le q (by rw [hc.2.1]; exact h)))
theorem c_ra {k : Nat} (hc : crC M 0 D) (hb : bnd D) (hk : k < D 4) (hK : K (some (.inl 0)) M) : ab_Call (d + 1) 155 [vr 0 0, vi (nI k)] M K := by
  refine caX9_refusalAt rfl (atX9_refusalAt ?_)
  have := hb.2.1
  refine And.intro (fun _ => ?_) (fun q => absurd q (nI_pos (by omega)))
  refine c_isLaid1 hc hb (by omega) ?_
  exact And.intro (fun q => absurd q (by rw [hc.2.1]; exact nI_ge hk (by omega))) (fun _ => hK)
theorem m_rf_neg {x : Int32} (h : x < nI 0) (hK : K (some (.inl (-1))) M) : ab_Call (d + 1) 221 [vr 49 0, vi x] M K := by
  refine caX10_refuses rfl (atX10_refuses ?_)
  exact And.intro (fun q => absurd q (i_not_le h)) (fun _ => hK)
theorem m_rf_no {x : Int32} (h : nI 0 ≤ x) (hn : nwM M 54 0 D) (h4 : D 4 = 0) (hK : K (some (.inl (-4))) M) : ab_Call (d + 1) 221 [vr 49 0, vi x] M K := by
  refine caX10_refuses rfl (atX10_refuses ?_)
  refine And.intro (fun _ => ?_) (fun q => absurd q (fun q => i_lt_le q h))
  exact m_hasTrail0 hn h4 hK
theorem m_rf_be {x : Int32} (h : nI (D 4) ≤ x) (hn : nwM M 54 0 D) (hb : bnd D) (h4 : 0 < D 4) (hK : K (some (.inl (-3))) (rfM M 2)) : ab_Call (d + 1) 221 [vr 49 0, vi x] M K := by
  refine caX10_refuses rfl (atX10_refuses ?_)
  have := hb.2.1
  refine And.intro (fun _ => ?_) (fun q => absurd q (fun q => i_lt_le q (i_le_trans (nI_le (by omega) (by omega)) h)))
  refine m_hasTrail1 hn h4 (by omega) ?_
  refine And.intro (fun q => absurd q (fun q => i_lt_le q (by rw [nw hn (by omega)]; exact h))) (fun _ => m_found (by omega) (by omega) hK)
theorem m_rf {k : Nat} (hn : nwM M 54 0 D) (hb : bnd D) (hk : k < D 4) (hK : K (some (.inl 0)) M) : ab_Call (d + 1) 221 [vr 49 0, vi (nI k)] M K := by
  refine caX10_refuses rfl (atX10_refuses ?_)
  have := hb.2.1
  refine And.intro (fun _ => ?_) (fun q => absurd q (nI_pos (by omega)))
  refine m_hasTrail1 hn (by omega) (by omega) ?_
  exact And.intro (fun _ => hK) (fun q => absurd q (by rw [nw hn (by omega)]; exact nI_ge hk (by omega)))
/-- a place of the trail: below 0, no trail, beyond, or k -/
theorem k_cases (x : Int32) {n : Nat} (hn : n < 2 ^ 31) : x < nI 0 ∨ (nI 0 ≤ x ∧ n = 0) ∨ (nI n ≤ x ∧ 0 < n) ∨ ∃ k, k < n ∧ x = nI k := by
  rcases i_cases x with q | ⟨k, hk, rfl⟩
  · exact Or.inl q
  · rcases Nat.eq_zero_or_pos n with w | w
    · exact Or.inr (Or.inl ⟨nI_pos' hk, w⟩)
    · rcases Nat.lt_or_ge k n with v | v
      · exact Or.inr (Or.inr (Or.inr ⟨k, v, rfl⟩))
      · exact Or.inr (Or.inr (Or.inl ⟨nI_le v hk, w⟩))
theorem op_hares {x : Int32} (hR : Rel M) : OpI (d + 4) 125 222 [vi x] M := by
  obtain ⟨D, hw, hw2, hw3, hl, hc, hn, hk⟩ := Rel_D hR
  have hb := bnd_of hw
  rcases k_cases x (n := D 4) (by have := hb.2.1; omega) with q | ⟨q, h4⟩ | ⟨q, h4⟩ | ⟨k, hk4, rfl⟩
  · refine ab_Call_nr (caX9_hares rfl (atX9_hares (c_ra_neg q ?_)))
    refine ab_Call_nr (caX10_hares rfl (atX10_hares (m_rf_neg q ?_)))
    exact ⟨⟨_, rfl, rfl⟩, hR⟩
  · refine ab_Call_nr (caX9_hares rfl (atX9_hares (c_ra_no q hc h4 ?_)))
    refine ab_Call_nr (caX10_hares rfl (atX10_hares (m_rf_no q hn h4 ?_)))
    exact ⟨⟨_, rfl, rfl⟩, hR⟩
  · refine ab_Call_nr (caX9_hares rfl (atX9_hares (c_ra_be q hc hb h4 ?_)))
    refine ab_Call_nr (caX10_hares rfl (atX10_hares (m_rf_be q (D := D) (fun k hk => hn k hk) hb h4 ?_)))
    exact ⟨⟨_, rfl, rfl⟩, Rel_rf 2 hR⟩
  · refine ab_Call_nr (caX9_hares rfl (atX9_hares (c_ra hc hb hk4 ?_)))
    refine c_haresAt hl hc hb (Or.inr hk4) ?_
    refine ab_Call_nr (caX10_hares rfl (atX10_hares (m_rf hn hb hk4 ?_)))
    refine m_haresAt hn hw (Or.inr hk4) ?_
    exact ⟨⟨_, rfl, rfl⟩, hR⟩
/-- Course.take -/
theorem c_take {a b : Nat} (hab : a ≠ b) (hK : ∀ M' : ab_M, (∀ g i, ¬ (14 ≤ g ∧ g ≤ 18 ∧ i = a) → M'.1 g i = M.1 g i) → M'.2 = M.2 → (∀ D, bnd D → crC M b D → crC M' a D) → K none M') : ab_Call (d + 1) 22 [vr 14 a, vr 14 b] M K := by
  refine caX1_take rfl (atX1_take ?_)
  refine cp_i 0 0 7 rfl rfl rfl (Nat.le_of_ble_eq_true rfl) (Nat.le_of_ble_eq_true rfl) ?_
  refine cp_i 0 0 8 rfl rfl rfl (Nat.le_of_ble_eq_true rfl) (Nat.le_of_ble_eq_true rfl) ?_
  refine cp_i 0 0 8 rfl rfl rfl (Nat.le_of_ble_eq_true rfl) (Nat.le_of_ble_eq_true rfl) ?_
  refine cp_i 0 0 8 rfl rfl rfl (Nat.le_of_ble_eq_true rfl) (Nat.le_of_ble_eq_true rfl) ?_
  refine hK _ (fun g i h => ?_) rfl (fun D hb hc => ?_)
  · funext k
    simp only [ab_sC, ab_sI]
    have : ∀ g', 14 ≤ g' → g' ≤ 18 → ¬ (g = g' ∧ i = a) := fun g' h1 h2 q => h ⟨by omega, by omega, q.2⟩
    have h14 := this 14 (by omega) (by omega)
    have h15 := this 15 (by omega) (by omega)
    have h16 := this 16 (by omega) (by omega)
    have h17 := this 17 (by omega) (by omega)
    have h18 := this 18 (by omega) (by omega)
    rw [if_neg (fun q => h18 ⟨q.1, q.2.1⟩), if_neg (fun q => h17 ⟨q.1, q.2.1⟩), if_neg (fun q => h16 ⟨q.1, q.2.1⟩), if_neg (fun q => h15 ⟨q.1, q.2.1⟩), if_neg (fun q => h14 ⟨q.1, q.2.1⟩), if_neg (fun q => h14 ⟨q.1, q.2.1⟩), if_neg (fun q => h14 ⟨q.1, q.2.1⟩), if_neg (fun q => h14 ⟨q.1, q.2.1⟩)]
  · obtain ⟨c1, c2, c3, c4, c5, c6⟩ := hc
    obtain ⟨b3, b4, b5, b6, b7, b8⟩ := hb
    have hba : ¬ b = a := fun q => hab q.symm
    refine ⟨?_, ?_, ?_, ?_, fun k hk => ?_, fun e he => ⟨?_, ?_, ?_⟩⟩
    · simp [ab_sC, ab_sI, c1]
    · simp [ab_sC, ab_sI, hba, c2]
    · simp [ab_sC, ab_sI, hba, c3]
    · simp [ab_sC, ab_sI, hba, c4]
    · have : k < 7 := by omega
      simp [ab_sC, ab_sI, this, c5 k hk]
    · have : e < 8 := by omega
      simp [ab_sC, ab_sI, this, (c6 e he).1]
    · have : e < 8 := by omega
      simp [ab_sC, ab_sI, this, (c6 e he).2.1]
    · have : e < 8 := by omega
      simp [ab_sC, ab_sI, this, (c6 e he).2.2]
theorem m_copies_54_55 {a b : Nat} {xa xb : Int32} (hxa : xa = nI a) (hxb : xb = nI b) (ha : a + 78 ≤ 78) (hb : b + 78 ≤ 234) (hK : K none (sR M 55 0 (cpf (M.1 54 0) (M.1 55 0) a b 78))) : ab_Call d 184 [vr 54 0, vi xa, vr 55 0, vi xb] M K := by
  subst hxa
  subst hxb
  refine caX10_copies rfl (atX10_copies ?_)
  have key : ∀ j, j ≤ 78 → ab_At miX10_copies d 3 [some (vr 54 0), some (vi (nI a)), some (vr 55 0), some (vi (nI b)), some (vi (nI j))] [] (sR M 55 0 (cpf (M.1 54 0) (M.1 55 0) a b j)) K := by
    refine up_ind fun j hj ih => ?_
    refine atX10_copies ?_
    refine And.intro (fun h => ?_) (fun h => ?_)
    · have : j = 78 := by have := nle_use h; omega
      subst this
      exact hK
    · have hjn := nlt_use h
      refine ix_i (a + j) (by simp only [nI_add]) (show a + j < 78 by omega) ?_
      refine ix_i (b + j) (by simp only [nI_add]) (show b + j < 234 by omega) ?_
      have := ih hjn
      rw [← cpf_s, ← sI_sR, ← nI_1] at this
      exact this
  have := key 0 (Nat.zero_le _)
  rw [cpf_0, sR_self] at this
  exact this
theorem m_copies_55_54 {a b : Nat} {xa xb : Int32} (hxa : xa = nI a) (hxb : xb = nI b) (ha : a + 78 ≤ 234) (hb : b + 78 ≤ 78) (hK : K none (sR M 54 0 (cpf (M.1 55 0) (M.1 54 0) a b 78))) : ab_Call d 184 [vr 55 0, vi xa, vr 54 0, vi xb] M K := by
  subst hxa
  subst hxb
  refine caX10_copies rfl (atX10_copies ?_)
  have key : ∀ j, j ≤ 78 → ab_At miX10_copies d 3 [some (vr 55 0), some (vi (nI a)), some (vr 54 0), some (vi (nI b)), some (vi (nI j))] [] (sR M 54 0 (cpf (M.1 55 0) (M.1 54 0) a b j)) K := by
    refine up_ind fun j hj ih => ?_
    refine atX10_copies ?_
    refine And.intro (fun h => ?_) (fun h => ?_)
    · have : j = 78 := by have := nle_use h; omega
      subst this
      exact hK
    · have hjn := nlt_use h
      refine ix_i (a + j) (by simp only [nI_add]) (show a + j < 234 by omega) ?_
      refine ix_i (b + j) (by simp only [nI_add]) (show b + j < 78 by omega) ?_
      have := ih hjn
      rw [← cpf_s, ← sI_sR, ← nI_1] at this
      exact this
  have := key 0 (Nat.zero_le _)
  rw [cpf_0, sR_self] at this
  exact this
theorem m_copies_58_54 {a b : Nat} {xa xb : Int32} (hxa : xa = nI a) (hxb : xb = nI b) (ha : a + 78 ≤ 78) (hb : b + 78 ≤ 78) (hK : K none (sR M 54 0 (cpf (M.1 58 0) (M.1 54 0) a b 78))) : ab_Call d 184 [vr 58 0, vi xa, vr 54 0, vi xb] M K := by
  subst hxa
  subst hxb
  refine caX10_copies rfl (atX10_copies ?_)
  have key : ∀ j, j ≤ 78 → ab_At miX10_copies d 3 [some (vr 58 0), some (vi (nI a)), some (vr 54 0), some (vi (nI b)), some (vi (nI j))] [] (sR M 54 0 (cpf (M.1 58 0) (M.1 54 0) a b j)) K := by
    refine up_ind fun j hj ih => ?_
    refine atX10_copies ?_
    refine And.intro (fun h => ?_) (fun h => ?_)
    · have : j = 78 := by have := nle_use h; omega
      subst this
      exact hK
    · have hjn := nlt_use h
      refine ix_i (a + j) (by simp only [nI_add]) (show a + j < 78 by omega) ?_
      refine ix_i (b + j) (by simp only [nI_add]) (show b + j < 78 by omega) ?_
      have := ih hjn
      rw [← cpf_s, ← sI_sR, ← nI_1] at this
      exact this
  have := key 0 (Nat.zero_le _)
  rw [cpf_0, sR_self] at this
  exact this
theorem m_copies_54_65 {a b : Nat} {xa xb : Int32} (hxa : xa = nI a) (hxb : xb = nI b) (ha : a + 78 ≤ 78) (hb : b + 78 ≤ 78) (hK : K none (sR M 65 0 (cpf (M.1 54 0) (M.1 65 0) a b 78))) : ab_Call d 184 [vr 54 0, vi xa, vr 65 0, vi xb] M K := by
  subst hxa
  subst hxb
  refine caX10_copies rfl (atX10_copies ?_)
  have key : ∀ j, j ≤ 78 → ab_At miX10_copies d 3 [some (vr 54 0), some (vi (nI a)), some (vr 65 0), some (vi (nI b)), some (vi (nI j))] [] (sR M 65 0 (cpf (M.1 54 0) (M.1 65 0) a b j)) K := by
    refine up_ind fun j hj ih => ?_
    refine atX10_copies ?_
    refine And.intro (fun h => ?_) (fun h => ?_)
    · have : j = 78 := by have := nle_use h; omega
      subst this
      exact hK
    · have hjn := nlt_use h
      refine ix_i (a + j) (by simp only [nI_add]) (show a + j < 78 by omega) ?_
      refine ix_i (b + j) (by simp only [nI_add]) (show b + j < 78 by omega) ?_
      have := ih hjn
      rw [← cpf_s, ← sI_sR, ← nI_1] at this
      exact this
  have := key 0 (Nat.zero_le _)
  rw [cpf_0, sR_self] at this
  exact this
theorem m_copies_65_54 {a b : Nat} {xa xb : Int32} (hxa : xa = nI a) (hxb : xb = nI b) (ha : a + 78 ≤ 78) (hb : b + 78 ≤ 78) (hK : K none (sR M 54 0 (cpf (M.1 65 0) (M.1 54 0) a b 78))) : ab_Call d 184 [vr 65 0, vi xa, vr 54 0, vi xb] M K := by
  subst hxa
  subst hxb
  refine caX10_copies rfl (atX10_copies ?_)
  have key : ∀ j, j ≤ 78 → ab_At miX10_copies d 3 [some (vr 65 0), some (vi (nI a)), some (vr 54 0), some (vi (nI b)), some (vi (nI j))] [] (sR M 54 0 (cpf (M.1 65 0) (M.1 54 0) a b j)) K := by
    refine up_ind fun j hj ih => ?_
    refine atX10_copies ?_
    refine And.intro (fun h => ?_) (fun h => ?_)
    · have : j = 78 := by have := nle_use h; omega
      subst this
      exact hK
    · have hjn := nlt_use h
      refine ix_i (a + j) (by simp only [nI_add]) (show a + j < 78 by omega) ?_
      refine ix_i (b + j) (by simp only [nI_add]) (show b + j < 78 by omega) ?_
      have := ih hjn
      rw [← cpf_s, ← sI_sR, ← nI_1] at this
      exact this
  have := key 0 (Nat.zero_le _)
  rw [cpf_0, sR_self] at this
  exact this
end Keep
