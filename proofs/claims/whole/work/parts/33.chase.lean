/-! ===== the chase: the reference's checks ===== -/
section ChaseM
variable {d : Nat} {M : ab_M} {K : ab_K} {D : Nat → Nat}
def b1 (b : Bool) : Nat := if b then 1 else 0
theorem b1_t {b : Bool} (h : b = true) : b1 b = 1 := by rw [h]; rfl
theorem b1_f {b : Bool} (h : b = false) : b1 b = 0 := by rw [h]; rfl
theorem b1_0 {b : Bool} (h : nI (b1 b) = nI 0) : b = false := by
  cases b
  · rfl
  · exact absurd h (by decide)
theorem b1_1 {b : Bool} (h : ¬ nI (b1 b) = nI 0) : b = true := by
  cases b
  · exact absurd rfl h
  · rfl
theorem wy_1 {k : Nat} (h : wb (D 77) (D (46 + k)) = 1) : wy D k = true := by simp [wy, h]
theorem wy_0 {k : Nat} (h : wb (D 77) (D (46 + k)) = 0) : wy D k = false := by simp [wy, h]
theorem m_isCheck {k : Nat} (hn : nwM M 54 0 D) (hb : bnd D) (hk : k < D 4) (h1 : ck D k = true → K (some (.inl 1)) M) (h0 : ck D k = false → K (some (.inl 0)) M) : ab_Call (d + 1) 194 [vr 49 0, vi (nI k)] M K := by
  refine caX10_isCheck rfl (atX10_isCheck ?_)
  have hb' := hb
  obtain ⟨b3, b4, b5, b6, b7, b8⟩ := hb'
  have ek : M.1 54 0 (46 + k) = nI (D (46 + k)) := nw hn (by omega)
  have hbk := b7 k hk
  have key : ∀ j, j ≤ D 5 → ab_At miX10_isCheck (d + 1) 16 [some (vr 49 0), some (vi (nI k)), some (vi (nI (b1 (wy D k || exb (fun e => decide (D (53 + e) = D (46 + k))) j)))), some (vi (nI j))] [] M K := by
    refine up_ind fun j hj ih => ?_
    refine atX10_isCheck ?_
    refine And.intro (fun h => ?_) (fun h => ?_)
    · rw [nw hn (by omega)] at h
      have : j = D 5 := by have := nle_use h; omega
      subst this
      refine And.intro (fun q => ?_) (fun q => ?_)
      · have q := b1_0 q
        exact h0 (by unfold ck; rw [q, Bool.and_false])
      · have q := b1_1 q
        refine And.intro (fun q2 => ?_) (fun q2 => ?_)
        · rw [nw hn (by omega), nI_sub1 (by omega) (by omega)] at q2
          exact h0 (by unfold ck; rw [q, Bool.and_true]; simp; omega)
        · rw [nw hn (by omega), nI_sub1_lt (by omega) (by omega)] at q2
          exact h1 (by unfold ck; rw [q, Bool.and_true]; simp; omega)
    · rw [nw hn (by omega)] at h
      have hjn := nlt_use h
      have e1 : M.1 54 0 (53 + j) = nI (D (53 + j)) := nw hn (by omega)
      obtain ⟨g1, g2, g3⟩ := b8 j hjn
      have := ih hjn
      rw [← nI_1, exb, ← Bool.or_assoc] at this
      refine And.intro (fun q => ?_) (fun q => ?_)
      · have q := b1_1 q
        rw [q, Bool.true_or] at this
        exact this
      · have q := b1_0 q
        rw [q, Bool.false_or] at this
        refine ix_i (53 + j) (by simp only [nI_add]) (show _ < 78 by omega) ?_
        refine ix_i (46 + k) (by simp only [nI_add]) (show _ < 78 by omega) ?_
        refine And.intro (fun q2 => ?_) (fun q2 => ?_)
        · rw [e1, ek] at q2
          rw [show decide (D (53 + j) = D (46 + k)) = false by simpa using nne_use q2] at this
          exact this
        · rw [e1, ek] at q2
          rw [show decide (D (53 + j) = D (46 + k)) = true by simpa using neq_use q2] at this
          exact this
  refine ix_i (46 + k) (by simp only [nI_add]) (show _ < 78 by omega) ?_
  rw [ek]
  have k0 := key 0 (Nat.zero_le _)
  rw [exb, Bool.or_false] at k0
  refine m_isWindy hn b6 hbk (fun q => ?_) (fun q => ?_)
  · rw [wy_1 q] at k0
    exact k0
  · rw [wy_0 q] at k0
    exact k0
def gp (D : Nat → Nat) (kd k e : Nat) : Bool := decide (kd ≠ 4) && decide (k + 1 < D 4) && cnd D (kd == 3) k e
theorem bs_s1 {p : Nat → Bool} {n : Nat} (h : p n = true) : nI (bs p (n + 1)) = nI (bs p n) ||| nI (2 ^ n) := by
  rw [nI_or, bs_or1, bs, if_pos h]
theorem bs_s0 {p : Nat → Bool} {n : Nat} (h : p n = false) : nI (bs p (n + 1)) = nI (bs p n) ||| nI 0 := by
  rw [nI_or, Nat.or_zero, bs, h]
  rfl
theorem m_goes {k kd : Nat} (hn : nwM M 54 0 D) (hb : bnd D) (hk : k < D 4) (hkd : kd ≤ 5) (hK : K (some (vi (nI (bs (gp D kd k) (D 5))))) M) : ab_Call (d + 1) 195 [vr 49 0, vi (nI kd), vi (nI k)] M K := by
  refine caX10_goes rfl (atX10_goes ?_)
  have hb' := hb
  obtain ⟨b3, b4, b5, b6, b7, b8⟩ := hb'
  have ek : M.1 54 0 (46 + k) = nI (D (46 + k)) := nw hn (by omega)
  have hbk := b7 k hk
  have key : ∀ j, j ≤ D 5 → ab_At miX10_goes (d + 1) 16 [some (vr 49 0), some (vi (nI kd)), some (vi (nI k)), some (vi (nI (bs (gp D kd k) j))), some (vi (nI (D (46 + k)))), some (vi (nI j))] [] M K := by
    refine up_ind fun j hj ih => ?_
    refine atX10_goes ?_
    refine And.intro (fun h => ?_) (fun h => ?_)
    · rw [nw hn (by omega)] at h
      have : j = D 5 := by have := nle_use h; omega
      subst this
      exact hK
    · rw [nw hn (by omega)] at h
      have hjn := nlt_use h
      refine And.intro (fun q => ?_) (fun q => ?_)
      · have q := neq_use q
        have z : ∀ n, bs (gp D kd k) n = 0 := fun n => bs_none (fun e _ => by simp [gp, q])
        rw [z] at hK ⊢
        exact hK
      · have q := nne_use q
        refine And.intro (fun q2 => ?_) (fun q2 => ?_)
        · rw [nw hn (by omega), nI_sub1 (by omega) (by omega)] at q2
          have z : ∀ n, bs (gp D kd k) n = 0 := fun n => bs_none (fun e _ => by
            have : decide (k + 1 < D 4) = false := by simp; omega
            simp only [gp, this, Bool.and_false, Bool.false_and])
          rw [z] at hK ⊢
          exact hK
        · rw [nw hn (by omega), nI_sub1_lt (by omega) (by omega)] at q2
          have e1 : M.1 54 0 (53 + j) = nI (D (53 + j)) := nw hn (by omega)
          have e2 : M.1 54 0 (61 + j) = nI (D (61 + j)) := nw hn (by omega)
          have e3 : M.1 54 0 (46 + k + 1) = nI (D (46 + k + 1)) := nw hn (by omega)
          have hbk1 : D (46 + k + 1) < 7 := b7 (k + 1) q2
          obtain ⟨g1, g2, g3⟩ := b8 j hjn
          have e4 : gp D kd k j = cnd D (kd == 3) k j := by simp [gp, q, q2]
          have := ih hjn
          rw [← nI_1] at this
          have yes : (wy D k || (decide (D (46 + k + 1) < D (61 + j)) == (kd == 3))) = true → (nI (D (53 + j)) = nI (D (46 + k)) → ab_At miX10_goes (d + 1) 16 [some (vr 49 0), some (vi (nI kd)), some (vi (nI k)), some (vi (nI (bs (gp D kd k) j) ||| ab_shl (nI 1) (nI j))), some (vi (nI (D (46 + k)))), some (vi (nI j + nI 1))] [] M K) := by
            intro w w2
            rw [bs_s1 (by rw [e4]; unfold cnd; rw [w, Bool.and_true]; simpa using neq_use w2), ← nI_shl1 (by omega)] at this
            exact this
          have no : ((wy D k || (decide (D (46 + k + 1) < D (61 + j)) == (kd == 3))) = false ∨ ¬ nI (D (53 + j)) = nI (D (46 + k))) → ab_At miX10_goes (d + 1) 16 [some (vr 49 0), some (vi (nI kd)), some (vi (nI k)), some (vi (nI (bs (gp D kd k) j) ||| nI 0)), some (vi (nI (D (46 + k)))), some (vi (nI j + nI 1))] [] M K := by
            intro w
            rw [bs_s0 (by
              rw [e4]
              unfold cnd
              rcases w with w | w
              · rw [w, Bool.and_false]
              · rw [show decide (D (53 + j) = D (46 + k)) = false by simpa using nne_use w, Bool.false_and])] at this
            exact this
          refine ix_i (61 + j) (by simp only [nI_add]) (show _ < 78 by omega) ?_
          refine ix_i (46 + k + 1) (by simp only [nI_add]) (show _ < 78 by omega) ?_
          refine And.intro (fun q3 => ?_) (fun q3 => ?_)
          · rw [e2, e3] at q3
            have q3 := nle_use q3
            have r3 : decide (D (46 + k + 1) < D (61 + j)) = false := by simp; omega
            refine m_isWindy hn b6 hbk (fun w => ?_) (fun w => ?_)
            · refine ix_i (53 + j) (by simp only [nI_add]) (show _ < 78 by omega) ?_
              refine And.intro (fun q4 => no (Or.inr (by rw [e1] at q4; exact q4))) (fun q4 => ?_)
              exact yes (by rw [wy_1 w, Bool.true_or]) (by rw [e1] at q4; exact q4)
            · refine And.intro (fun q4 => ?_) (fun q4 => ?_)
              · have q4 := nne_use q4
                have r4 : (kd == 3) = false := by simp; omega
                refine ix_i (53 + j) (by simp only [nI_add]) (show _ < 78 by omega) ?_
                refine And.intro (fun q5 => no (Or.inr (by rw [e1] at q5; exact q5))) (fun q5 => ?_)
                exact yes (by rw [r3, r4, wy_0 w]; rfl) (by rw [e1] at q5; exact q5)
              · have q4 := neq_use q4
                have r4 : (kd == 3) = true := by simp; omega
                refine ix_i (53 + j) (by simp only [nI_add]) (show _ < 78 by omega) ?_
                refine And.intro (fun q5 => no (Or.inr (by rw [e1] at q5; exact q5))) (fun q5 => ?_)
                exact no (Or.inl (by rw [r3, r4, wy_0 w]; rfl))
          · rw [e2, e3] at q3
            have q3 := nlt_use q3
            have r3 : decide (D (46 + k + 1) < D (61 + j)) = true := by simp; omega
            refine m_isWindy hn b6 hbk (fun w => ?_) (fun w => ?_)
            · refine ix_i (53 + j) (by simp only [nI_add]) (show _ < 78 by omega) ?_
              refine And.intro (fun q4 => no (Or.inr (by rw [e1] at q4; exact q4))) (fun q4 => ?_)
              exact yes (by rw [wy_1 w, Bool.true_or]) (by rw [e1] at q4; exact q4)
            · refine And.intro (fun q4 => ?_) (fun q4 => ?_)
              · have q4 := nne_use q4
                have r4 : (kd == 3) = false := by simp; omega
                refine ix_i (53 + j) (by simp only [nI_add]) (show _ < 78 by omega) ?_
                refine And.intro (fun q5 => no (Or.inr (by rw [e1] at q5; exact q5))) (fun q5 => ?_)
                exact no (Or.inl (by rw [r3, r4, wy_0 w]; rfl))
              · have q4 := neq_use q4
                have r4 : (kd == 3) = true := by simp; omega
                refine ix_i (53 + j) (by simp only [nI_add]) (show _ < 78 by omega) ?_
                refine And.intro (fun q5 => no (Or.inr (by rw [e1] at q5; exact q5))) (fun q5 => ?_)
                exact yes (by rw [r3, r4, wy_0 w]; rfl) (by rw [e1] at q5; exact q5)
  refine ix_i (46 + k) (by simp only [nI_add]) (show _ < 78 by omega) ?_
  rw [ek]
  exact key 0 (Nat.zero_le _)
theorem m_lasting {p : Nat → Bool} {s : Nat} (hn : nwM M 54 0 D) (hb : bnd D) (hs : s = bs p (D 5)) (hK : K (some (vi (nI (sm (fun e => if p e then 2 * D (69 + e) else 0) (D 5))))) M) : ab_Call (d + 1) 196 [vr 49 0, vi (nI s)] M K := by
  refine caX10_lasting rfl (atX10_lasting ?_)
  have hb' := hb
  obtain ⟨b3, b4, b5, b6, b7, b8⟩ := hb'
  have hs2 : s < 2 ^ 8 := by rw [hs]; exact Nat.lt_of_lt_of_le (bs_lt p (D 5)) (Nat.pow_le_pow_right (by omega) b5)
  have key : ∀ j, j ≤ D 5 → ab_At miX10_lasting (d + 1) 4 [some (vr 49 0), some (vi (nI s)), some (vi (nI (sm (fun e => if p e then 2 * D (69 + e) else 0) j))), some (vi (nI j))] [] M K := by
    refine up_ind fun j hj ih => ?_
    refine atX10_lasting ?_
    refine And.intro (fun h => ?_) (fun h => ?_)
    · rw [nw hn (by omega)] at h
      have : j = D 5 := by have := nle_use h; omega
      subst this
      exact hK
    · rw [nw hn (by omega)] at h
      have hjn := nlt_use h
      have e3 : M.1 54 0 (69 + j) = nI (D (69 + j)) := nw hn (by omega)
      have eb : ab_shr (nI s) (nI j) &&& nI 1 = nI (b1 (p j)) := by rw [nI_bit (by omega) (by omega), hs, bs_wb p hjn]; rfl
      have := ih hjn
      rw [← nI_1, sm, ← nI_add] at this
      refine And.intro (fun q => ?_) (fun q => ?_)
      · rw [eb] at q
        have q : p j = false := by
          cases hp : p j
          · rfl
          · rw [hp] at q; exact absurd rfl q
        rw [q] at this
        exact this
      · rw [eb] at q
        have q : p j = true := by
          cases hp : p j
          · rw [hp] at q; exact absurd q (by decide)
          · rfl
        rw [q] at this
        refine ix_i (69 + j) (by simp only [nI_add]) (show _ < 78 by omega) ?_
        simp only [if_true] at this
        rw [← pk_mul, ← e3] at this
        exact this
  exact key 0 (Nat.zero_le _)
end ChaseM
