/-! ===== chance: the reference's ways ===== -/
theorem bs_self {s n : Nat} (h : s < 2 ^ n) : bs (fun e => s.testBit e) n = s := by
  refine Nat.eq_of_testBit_eq (fun e => ?_)
  rw [bs_tb]
  rcases Nat.lt_or_ge e n with w | w
  · rw [decide_eq_true w, Bool.true_and]
  · have p1 : 2 ^ n ≤ 2 ^ e := Nat.pow_le_pow_right (by omega) w
    rw [Nat.testBit_lt_two_pow (show s < 2 ^ e by omega), Bool.and_false]
theorem sub0 {p : Nat → Bool} {s n : Nat} (h : s < 2 ^ n) : bs (fun e => s.testBit e && !(bs p n).testBit e) n = 0 ↔ s &&& bs p n = s := by
  rw [sub_iff]
  constructor
  · intro q e he
    have en : e < n := by
      rcases Nat.lt_or_ge e n with w | w
      · exact w
      · have p1 : 2 ^ n ≤ 2 ^ e := Nat.pow_le_pow_right (by omega) w
        rw [Nat.testBit_lt_two_pow (show s < 2 ^ e by omega)] at he
        simp at he
    have := bs_tb (fun e => s.testBit e && !(bs p n).testBit e) n e
    rw [q, Nat.zero_testBit, decide_eq_true en, he, bs_tb, decide_eq_true en] at this
    simp at this
    exact ⟨en, this⟩
  · intro q
    refine bs_none (fun e he => ?_)
    cases w : s.testBit e
    · rfl
    · rw [bs_tb, decide_eq_true he, (q e w).2]
      rfl
/-- a whole row of longs -/
def sL (M : ab_M) (o : Nat) (F : Nat → Int64) : ab_M := (M.1, fun a b c => if a = 67 ∧ b = o then F c else M.2.1 a b c, M.2.2)
theorem sL_self (M : ab_M) (o : Nat) : sL M o (M.2.1 67 o) = M := by
  refine Prod.ext rfl (Prod.ext ?_ rfl)
  funext a b c
  show (if a = 67 ∧ b = o then M.2.1 67 o c else M.2.1 a b c) = _
  split
  · rename_i h; rw [h.1, h.2]
  · rfl
theorem sL_set (M : ab_M) (o : Nat) (F : Nat → Int64) (k : Nat) (v : Int64) : ab_sJ (sL M o F) 67 o k v = sL M o (fun x => if x = k then v else F x) := by
  refine Prod.ext rfl (Prod.ext ?_ rfl)
  funext a b c
  show (if a = 67 ∧ b = o ∧ c = k then v else if a = 67 ∧ b = o then F c else M.2.1 a b c) = if a = 67 ∧ b = o then (if c = k then v else F c) else M.2.1 a b c
  by_cases h : a = 67 ∧ b = o
  · rw [if_pos h, if_pos h]
    by_cases q : c = k
    · rw [if_pos ⟨h.1, h.2, q⟩, if_pos q]
    · rw [if_neg (fun w => q w.2.2), if_neg q]
  · rw [if_neg (fun w => h ⟨w.1, w.2.1⟩), if_neg h, if_neg h]
theorem sL_at {M : ab_M} {o : Nat} {F : Nat → Int64} {c : Nat} : (sL M o F).2.1 67 o c = F c := if_pos ⟨rfl, rfl⟩
theorem sL_off {M : ab_M} {o w : Nat} {F : Nat → Int64} {c : Nat} (h : w ≠ o) : (sL M o F).2.1 67 w c = M.2.1 67 w c := if_neg (fun q => h q.2)
section Spread
variable {d : Nat} {M : ab_M} {K : ab_K} {D : Nat → Nat}
theorem m_factorial {n : Nat} {v : Int32} (hv : v = nI n) (hn : n < 1000) (hK : K (some (vl (lN (fac n)))) M) : ab_Call d 248 [vi v] M K := by
  subst hv
  refine caX10_factorial rfl (atX10_factorial ?_)
  have key : ∀ j, j ≤ n - 1 → ab_At miX10_factorial d 4 [some (vi (nI n)), some (vl (lN (fac (j + 1)))), none, some (vi (nI (j + 2)))] [] M K := by
    refine up_ind fun j hj ih => ?_
    refine atX10_factorial ?_
    refine And.intro (fun q => ?_) (fun q => ?_)
    · have q := nlt_use q
      have : fac (j + 1) = fac n := by
        rcases Nat.eq_zero_or_pos n with z | z
        · subst z
          have : j = 0 := by omega
          subst this
          rfl
        · have : j + 1 = n := by omega
          rw [this]
      rw [this]
      exact hK
    · have q := nle_use q
      have := ih (by omega)
      rw [← nI_1 (j + 2), fac, ← lN_mul, ← nI_l (n := j + 1 + 1) (by omega)] at this
      exact this
  exact key 0 (Nat.zero_le _)
/-- what a set of a place's ends adds -/
def spG (D : Nat → Nat) (k s c : Nat) : Nat := if lsS D (fun e => s.testBit e) + w2 D k ≤ c then Wf D k (c - (lsS D (fun e => s.testBit e) + w2 D k)) * od D k (fun e => s.testBit e) else 0
def spA (D : Nat → Nat) (k s c : Nat) : Nat := sm (fun s => if s &&& bs (eap D k) (D 5) = s then spG D k s c else 0) s
theorem spA_end {D : Nat → Nat} (hw : wf D) {k c : Nat} (hk : k < D 4) : spA D k (bs (eap D k) (D 5) + 1) c = Wf D (k + 1) c := by
  rw [Wf_step hw hk]
  exact SS_ref (f := fun a => if lsS D a + w2 D k ≤ c then Wf D k (c - (lsS D a + w2 D k)) * od D k a else 0)
theorem m_spreads {k : Nat} (hn : nwM M 54 0 D) (hw : wf D) (hk : k + 1 < D 4) (hx : M.2.2 49 0 27 ≠ M.2.2 49 0 28) (hW : ∀ t, t < 128 → M.2.1 67 (M.2.2 49 0 27) t = lN (Wf D k t)) (hK : ∀ F : Nat → Int64, (∀ t, t < 128 → F t = lN (Wf D (k + 1) t)) → K none (ab_sX (ab_sX (sL M (M.2.2 49 0 28) F) 49 0 27 (M.2.2 49 0 28)) 49 0 28 (M.2.2 49 0 27))) : ab_Call (d + 2) 251 [vr 49 0, vi (nI k)] M K := by
  refine caX10_spreads rfl (atX10_spreads ?_)
  have hb := bnd_of hw
  have hb' := hb
  obtain ⟨b3, b4, b5, b6, b7, b8⟩ := hb'
  have l8 : (2 : Nat) ^ D 5 ≤ 2 ^ 8 := Nat.pow_le_pow_right (by omega) b5
  have hal := bs_lt (eap D k) (D 5)
  refine m_endsAt hn hb (by omega) ?_
  refine m_bits rfl (by omega) ?_
  rw [pc8_bs b5]
  refine ix_i (46 + k) (by simp only [nI_add]) (show _ < 78 by omega) ?_
  have set : ∀ s, s ≤ bs (eap D k) (D 5) + 1 → ∀ F : Nat → Int64, (∀ c, c < 128 → F c = lN (spA D k s c)) → ab_At miX10_spreads (d + 2) 62 [some (vr 49 0), none, some (vi (nI (bs (eap D k) (D 5)))), some (vi (nI (cN D k))), some (vi (nI (w2 D k))), some (vi (nI s))] [] (sL M (M.2.2 49 0 28) F) K := by
    refine up_ind fun s hs ih F hF => ?_
    refine atX10_spreads ?_
    refine And.intro (fun q => ?_) (fun q => ?_)
    · have q := nlt_use q
      have : s = bs (eap D k) (D 5) + 1 := by omega
      subst this
      exact hK F (fun t ht => by rw [hF t ht, spA_end hw (by omega)])
    · have q := nle_use q
      have hs2 : s < 2 ^ D 5 := by omega
      have hnx := ih (by omega)
      rw [← nI_1 s] at hnx
      have ea : nI s &&& (nI (bs (eap D k) (D 5)) ^^^ -1) = nI (bs (fun e => s.testBit e && !(bs (eap D k) (D 5)).testBit e) (D 5)) := nI_andn hs2 (by omega)
      have hbl := bs_lt (fun e => s.testBit e && !(bs (eap D k) (D 5)).testBit e) (D 5)
      refine And.intro (fun q => ?_) (fun q => ?_)
      · have q : ¬ nI (bs (fun e => s.testBit e && !(bs (eap D k) (D 5)).testBit e) (D 5)) = nI 0 := by rw [← ea]; exact q
        have q : ¬ s &&& bs (eap D k) (D 5) = s := fun w => nne_use q ((sub0 hs2).mpr w)
        refine hnx F (fun c hc => ?_)
        rw [hF c hc, spA, spA, sm, if_neg q, Nat.add_zero]
      · have q : nI (bs (fun e => s.testBit e && !(bs (eap D k) (D 5)).testBit e) (D 5)) = nI 0 := by rw [← ea]; exact q
        have hq : s &&& bs (eap D k) (D 5) = s := (sub0 hs2).mp (neq_use q)
        have hsub := sub_iff.mp hq
        have ecA : sm (fun e => b1 (s.testBit e)) (D 5) = cA D k (fun e => s.testBit e) := sm_cong (fun e he => by
          cases w : s.testBit e
          · show b1 false = b1 (eap D k e && s.testBit e); rw [w, Bool.and_false]
          · show b1 true = b1 (eap D k e && s.testBit e); rw [w, (hsub e w).2]; rfl)
        have ep : pc8 s = cA D k (fun e => s.testBit e) := by rw [← ecA, ← pc8_bs b5, bs_self hs2]
        have hab := cAB D k (fun e => s.testBit e)
        have hcn : cN D k ≤ 8 := by
          have : cN D k ≤ D 5 * 1 := sm_le (fun e _ => by unfold b1; split <;> omega)
          omega
        have hls := lsS_le hw (fun e => s.testBit e)
        have hw2 : w2 D k ≤ 2 := by unfold w2; split <;> omega
        refine m_bits rfl (by omega) ?_
        rw [ep]
        refine m_factorial rfl (by omega) ?_
        refine m_bits rfl (by omega) ?_
        rw [ep]
        refine m_factorial (n := cB D k (fun e => s.testBit e)) (by rw [pk_sub (by omega)]; congr 1; omega) (by omega) ?_
        refine m_lasting (M := sL M (M.2.2 49 0 28) F) (D := D) (p := fun e => s.testBit e) hn hb (bs_self hs2).symm ?_
        have inner : ∀ m, m ≤ 128 - (lsS D (fun e => s.testBit e) + w2 D k) → ∀ F : Nat → Int64, (∀ c, c < 128 → F c = lN (spA D k s c + if lsS D (fun e => s.testBit e) + w2 D k ≤ c ∧ c < m + (lsS D (fun e => s.testBit e) + w2 D k) then Wf D k (c - (lsS D (fun e => s.testBit e) + w2 D k)) * od D k (fun e => s.testBit e) else 0)) → ab_At miX10_spreads (d + 2) 112 [some (vr 49 0), none, some (vi (nI (bs (eap D k) (D 5)))), some (vi (nI (cN D k))), some (vi (nI (w2 D k))), some (vi (nI s)), some (vl (lN (od D k (fun e => s.testBit e)))), none, some (vi (nI (lsS D (fun e => s.testBit e) + w2 D k))), some (vi (nI m))] [] (sL M (M.2.2 49 0 28) F) K := by
          generalize hlo : lsS D (fun e => s.testBit e) + w2 D k = lo
          refine up_ind fun m hm ihm F hF => ?_
          refine atX10_spreads ?_
          have em : nI m + nI lo = nI (m + lo) := nI_add m lo
          refine And.intro (fun q => ?_) (fun q => ?_)
          · have q : nI 128 ≤ nI (m + lo) := by rw [← em]; exact q
            have q := nle_use q
            refine hnx F (fun c hc => ?_)
            rw [hF c hc, spA, spA, sm, if_pos hq, spG, hlo]
            congr 2
            by_cases w : lo ≤ c
            · rw [if_pos w, if_pos ⟨w, by omega⟩]
            · rw [if_neg w, if_neg (fun v => w v.1)]
          · have q : nI (m + lo) < nI 128 := by rw [← em]; exact q
            have q := nlt_use q
            refine ix_i (m + lo) em (show _ < 128 by omega) ?_
            refine ix_i m rfl (show _ < 128 by omega) ?_
            refine ix_i (m + lo) em (show _ < 128 by omega) ?_
            have := ihm (by omega)
            rw [← nI_1 m] at this
            have e1 : (sL M (M.2.2 49 0 28) F).2.1 67 (M.2.2 49 0 28) (m + lo) = F (m + lo) := sL_at
            have e2 : (sL M (M.2.2 49 0 28) F).2.1 67 (M.2.2 49 0 27) m = lN (Wf D k m) := by rw [sL_off hx, hW m (by omega)]
            have e3 : ab_sJ (sL M (M.2.2 49 0 28) F) 67 (M.2.2 49 0 28) (m + lo) ((sL M (M.2.2 49 0 28) F).2.1 67 (M.2.2 49 0 28) (m + lo) + (sL M (M.2.2 49 0 28) F).2.1 67 (M.2.2 49 0 27) m * lN (od D k fun e => s.testBit e)) = sL M (M.2.2 49 0 28) (fun x => if x = m + lo then F (m + lo) + lN (Wf D k m) * lN (od D k fun e => s.testBit e) else F x) := by rw [e1, e2, sL_set]
            have := this (fun x => if x = m + lo then F (m + lo) + lN (Wf D k m) * lN (od D k fun e => s.testBit e) else F x) (fun c hc => by
              show (if c = m + lo then _ else _) = _
              by_cases w : c = m + lo
              · subst w
                rw [if_pos rfl, hF _ hc, if_neg (by omega), if_pos ⟨by omega, by omega⟩, lN_mul, lN_add, Nat.add_zero, Nat.add_sub_cancel]
              · rw [if_neg w, hF c hc]
                congr 2
                by_cases v : lo ≤ c ∧ c < m + lo
                · rw [if_pos v, if_pos ⟨v.1, by omega⟩]
                · rw [if_neg v, if_neg (by omega)])
            rw [← e3] at this
            exact this
        have := inner 0 (Nat.zero_le _) F (fun c hc => by rw [hF c hc, if_neg (by omega), Nat.add_zero])
        rw [od, ← lN_mul, ← nI_add] at this
        exact this
  have clr : ∀ m, m ≤ 128 → ∀ F : Nat → Int64, (∀ c, c < m → F c = lN 0) → ab_At miX10_spreads (d + 2) 37 [some (vr 49 0), none, some (vi (nI (bs (eap D k) (D 5)))), some (vi (nI (cN D k))), some (vi (nI (w2 D k))), some (vi (nI m))] [] (sL M (M.2.2 49 0 28) F) K := by
    refine up_ind fun m hm ih F hF => ?_
    refine atX10_spreads ?_
    refine And.intro (fun q => ?_) (fun q => ?_)
    · have : m = 128 := by have := nle_use (a := 128) q; omega
      subst this
      exact set 0 (Nat.zero_le _) F (fun c hc => by rw [hF c hc]; rfl)
    · have q := nlt_use (b := 128) q
      refine ix_i m rfl (show _ < 128 by omega) ?_
      have := ih q (fun x => if x = m then lN 0 else F x) (fun c hc => by
        show (if c = m then _ else _) = _
        by_cases w : c = m
        · rw [if_pos w]
        · rw [if_neg w]; exact hF c (by omega))
      rw [← nI_1 m, ← sL_set] at this
      exact this
  have := clr 0 (Nat.zero_le _) (M.2.1 67 (M.2.2 49 0 28)) (fun c hc => absurd hc (by omega))
  rw [sL_self] at this
  refine m_isWindy_e (nw hn (by omega)) hn b6 (b7 k (by omega)) (fun q => ?_) (fun q => ?_)
  · rw [w2, wy_1 q] at this
    exact this
  · rw [w2, wy_0 q] at this
    exact this
end Spread
