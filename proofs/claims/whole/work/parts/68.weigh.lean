/-! ===== chance: the class's count ===== -/
theorem nI_andn {a b n : Nat} (ha : a < 2 ^ n) (hn : n ≤ 31) : nI a &&& (nI b ^^^ -1) = nI (bs (fun e => a.testBit e && !b.testBit e) n) := by
  rw [← Int32.toBitVec_inj]
  refine BitVec.eq_of_getLsbD_eq (fun i hi => ?_)
  rw [Int32.toBitVec_and, Int32.toBitVec_xor]
  have e1 : ∀ x : Nat, (nI x).toBitVec.getLsbD i = x.testBit i := fun x => by
    have : (nI x).toBitVec = BitVec.ofNat 32 x := by simp [nI]
    rw [this, BitVec.getLsbD_ofNat, decide_eq_true hi, Bool.true_and]
  have e2 : (-1 : Int32).toBitVec.getLsbD i = true := by
    have : (-1 : Int32).toBitVec = BitVec.allOnes 32 := by decide
    rw [this, BitVec.getLsbD_allOnes]
    exact decide_eq_true hi
  rw [BitVec.getLsbD_and, BitVec.getLsbD_xor, e1, e1, e1, e2, bs_tb]
  rcases Nat.lt_or_ge i n with w | w
  · rw [decide_eq_true w]
    cases a.testBit i <;> cases b.testBit i <;> rfl
  · have p1 : 2 ^ n ≤ 2 ^ i := Nat.pow_le_pow_right (by omega) w
    rw [Nat.testBit_lt_two_pow (show a < 2 ^ i by omega), decide_eq_false (by omega)]
    rfl
theorem wb_tbi (s j : Nat) : wb s j = if s.testBit j then 1 else 0 := by
  rw [Nat.testBit_eq_decide_div_mod_eq]
  unfold wb
  by_cases h : s / 2 ^ j % 2 = 1
  · rw [decide_eq_true h, h]; rfl
  · rw [decide_eq_false h]; show _ = 0; omega
theorem lsS_2 (D : Nat → Nat) (s : Nat → Bool) : lsS D s = 2 * sm (fun e => if s e then D (69 + e) else 0) (D 5) := by
  unfold lsS
  generalize D 5 = n
  induction n with
  | zero => rfl
  | succ n ih => rw [sm, sm, ih]; split <;> omega
theorem bs_and (p : Nat → Bool) (n s : Nat) : bs p n &&& s = bs (fun e => p e && s.testBit e) n := by
  refine Nat.eq_of_testBit_eq (fun e => ?_)
  rw [Nat.testBit_and, bs_tb, bs_tb, Bool.and_assoc]
theorem fc_at {M : ab_M} (h : fc_ok M) {a : Nat} (ha : a ≤ 5) : M.1 70 0 a = nI (fac a) := by
  obtain ⟨h0, h1, h2, h3, h4, h5, -⟩ := h
  match a, ha with
  | 0, _ => exact h0
  | 1, _ => exact h1
  | 2, _ => exact h2
  | 3, _ => exact h3
  | 4, _ => exact h4
  | 5, _ => exact h5
/-- at most one of what excludes each other -/
theorem sm_b1 {p : Nat → Bool} : ∀ {n : Nat}, (∀ e f, e < f → f < n → ¬ (p e = true ∧ p f = true)) → sm (fun e => b1 (p e)) n ≤ 1
  | 0, _ => by rw [sm]; omega
  | n + 1, h => by
    rw [sm]
    cases q : p n
    · have := sm_b1 (p := p) (n := n) (fun e f a b => h e f a (by omega))
      show _ + 0 ≤ 1
      omega
    · rw [sm_zero (fun e he => ?_)]
      · show 0 + 1 ≤ 1
        omega
      · cases w : p e
        · rfl
        · exact absurd ⟨w, q⟩ (h e n he (by omega))
theorem n57 : ∀ a, a < 7 → ∀ b, b < 7 → a ≠ b → sm (fun t => if t = a ∨ t = b then 0 else 1) 7 ≤ 5 := by decide +kernel
/-- no more than five false ends at a place: none towards itself, none towards the next one, one at most towards each other -/
theorem cN5 {D : Nat → Nat} (hw : wf D) {k : Nat} (hk : k + 1 < D 4) : cN D k ≤ 5 := by
  obtain ⟨b3, b4, b5, b6, b7, b8⟩ := bnd_of hw
  obtain ⟨hL, w3, w4, w5, w6, w7, w8, w9, w10, w11, w12⟩ := hw
  have ka := b7 k (by omega)
  have kb := b7 (k + 1) hk
  have kn : D (46 + k) ≠ D (46 + (k + 1)) := w8 k (k + 1) (by omega) hk
  have to : ∀ e, e < D 5 → eap D k e = true → D (61 + e) ≠ D (46 + k) ∧ D (61 + e) ≠ D (46 + (k + 1)) := fun e he q => by
    have q : D (53 + e) = D (46 + k) := of_decide_eq_true q
    obtain ⟨j, j1, j2, j3, j4, j5, -⟩ := w10 e he
    have jk : j = k := by
      rcases Nat.lt_trichotomy j k with w | w | w
      · exact absurd (j2.symm.trans q) (w8 j k w (by omega))
      · exact w
      · exact absurd (q.symm.trans j2) (w8 k j w (by omega))
    subst jk
    exact ⟨fun w => j4 (w.trans q.symm), j5⟩
  have e1 : cN D k = sm (fun e => sm (fun t => b1 (eap D k e && decide (D (61 + e) = t))) 7) (D 5) := by
    refine sm_cong (fun e he => ?_)
    have he7 := (b8 e he).2.1
    show _ = sm (fun t => b1 (eap D k e && decide (D (61 + e) = t))) 7
    rw [sm_one (a := D (61 + e)) he7 (fun t _ ht => ?_)]
    · show _ = b1 (eap D k e && decide (D (61 + e) = D (61 + e)))
      rw [decide_eq_true rfl, Bool.and_true]
    · show b1 (eap D k e && decide (D (61 + e) = t)) = 0
      rw [decide_eq_false (fun w => ht w.symm), Bool.and_false]
      rfl
  have e2 := sm_swap (fun e t => b1 (eap D k e && decide (D (61 + e) = t))) 7 (D 5)
  rw [e1, e2]
  refine Nat.le_trans ?_ (n57 _ ka _ kb kn)
  refine (sm_sub (fun t ht => ?_)).1
  show sm (fun e => b1 (eap D k e && decide (D (61 + e) = t))) (D 5) ≤ if t = D (46 + k) ∨ t = D (46 + (k + 1)) then 0 else 1
  by_cases q : t = D (46 + k) ∨ t = D (46 + (k + 1))
  · rw [if_pos q, sm_zero (fun e he => ?_)]
    · omega
    · cases w : eap D k e
      · rfl
      · have tt := to e he w
        rw [decide_eq_false (fun v => ?_)]
        · rfl
        · rcases q with q | q
          · exact tt.1 (v.trans q)
          · exact tt.2 (v.trans q)
  · rw [if_neg q]
    refine sm_b1 (fun e f hef hf h => ?_)
    obtain ⟨h1, h2⟩ := h
    rw [Bool.and_eq_true] at h1 h2
    have a1 : D (53 + e) = D (46 + k) := of_decide_eq_true h1.1
    have a2 : D (53 + f) = D (46 + k) := of_decide_eq_true h2.1
    have c1 : D (61 + e) = t := of_decide_eq_true h1.2
    have c2 : D (61 + f) = t := of_decide_eq_true h2.2
    exact w11 e f hef hf ⟨a1.trans a2.symm, c1.trans c2.symm⟩
/-- part and whole -/
def pwM (M : ab_M) (p w : Int64) : ab_M := ab_sJ (ab_sJ M 46 0 3 p) 46 0 4 w
theorem pwM_pwM (M : ab_M) (p w p' w' : Int64) : ab_sJ (ab_sJ (pwM M p w) 46 0 4 w') 46 0 3 p' = pwM M p' w' := by
  unfold pwM ab_sJ
  refine Prod.ext rfl (Prod.ext ?_ rfl)
  funext a b c
  show (if a = 46 ∧ b = 0 ∧ c = 3 then p' else if a = 46 ∧ b = 0 ∧ c = 4 then w' else if a = 46 ∧ b = 0 ∧ c = 4 then w else if a = 46 ∧ b = 0 ∧ c = 3 then p else M.2.1 a b c) = if a = 46 ∧ b = 0 ∧ c = 4 then w' else if a = 46 ∧ b = 0 ∧ c = 3 then p' else M.2.1 a b c
  by_cases h3 : a = 46 ∧ b = 0 ∧ c = 3
  · rw [if_pos h3, if_neg (by omega), if_pos h3]
  · rw [if_neg h3]
    by_cases h4 : a = 46 ∧ b = 0 ∧ c = 4
    · rw [if_pos h4, if_pos h4]
    · rw [if_neg h4, if_neg h4, if_neg h4, if_neg h3, if_neg h3]
section Weigh
variable {d c : Nat} {M : ab_M} {K : ab_K} {D : Nat → Nat}
theorem c_endsAt {k : Nat} (hc : crC M c D) (hcc : c < 5) (hb : bnd D) (hk : k < D 4) (hK : K (some (vi (nI (bs (eap D k) (D 5))))) M) : ab_Call d 33 [vr 14 c, vi (nI k)] M K := by
  refine caX1_endsAt rfl (atX1_endsAt ?_)
  obtain ⟨b3, b4, b5, b6, b7, b8⟩ := hb
  have key : ∀ j, j ≤ D 5 → ab_At miX1_endsAt d 4 [some (vr 14 c), some (vi (nI k)), some (vi (nI (bs (eap D k) j))), some (vi (nI j))] [] M K := by
    refine up_ind fun j hj ih => ?_
    refine atX1_endsAt ?_
    have e5 : M.1 14 c 2 = nI (D 5) := hc.2.2.1
    refine And.intro (fun h => ?_) (fun h => ?_)
    · rw [e5] at h
      have : j = D 5 := by have := nle_use h; omega
      subst this
      exact hK
    · rw [e5] at h
      have hjn := nlt_use h
      have bj := b8 j hjn
      have bk := b7 k hk
      have := ih hjn
      rw [← nI_1 j] at this
      refine ix_i j rfl (show j < 8 by omega) ?_
      refine ix_i k rfl (show k < 7 by omega) ?_
      refine And.intro (fun q => ?_) (fun q => ?_)
      · rw [(hc.2.2.2.2.2 j hjn).1, hc.2.2.2.2.1 k hk, nI_eq (by omega) (by omega)] at q
        rw [bs_s0 (decide_eq_false q)] at this
        exact this
      · rw [(hc.2.2.2.2.2 j hjn).1, hc.2.2.2.2.1 k hk, nI_eq (by omega) (by omega)] at q
        rw [bs_s1 (decide_eq_true q), ← nI_shl1 (by omega)] at this
        exact this
  exact key 0 (Nat.zero_le _)
theorem c_lengthOf {s : Nat} (hc : crC M c D) (hcc : c < 5) (hb : bnd D) (hs : s < 256) (hK : K (some (vi (nI (sm (fun e => if s.testBit e then D (69 + e) else 0) (D 5))))) M) : ab_Call d 35 [vr 14 c, vi (nI s)] M K := by
  refine caX1_lengthOf rfl (atX1_lengthOf ?_)
  obtain ⟨b3, b4, b5, b6, b7, b8⟩ := hb
  have key : ∀ j, j ≤ D 5 → ab_At miX1_lengthOf d 4 [some (vr 14 c), some (vi (nI s)), some (vi (nI (sm (fun e => if s.testBit e then D (69 + e) else 0) j))), some (vi (nI j))] [] M K := by
    refine up_ind fun j hj ih => ?_
    refine atX1_lengthOf ?_
    have e5 : M.1 14 c 2 = nI (D 5) := hc.2.2.1
    refine And.intro (fun h => ?_) (fun h => ?_)
    · rw [e5] at h
      have : j = D 5 := by have := nle_use h; omega
      subst this
      exact hK
    · rw [e5] at h
      have hjn := nlt_use h
      have := ih hjn
      rw [← nI_1 j, sm, ← nI_add] at this
      have hbit : ab_shr (nI s) (nI j) &&& nI 1 = nI (wb s j) := nI_bit (by omega) (by omega)
      refine And.intro (fun q => ?_) (fun q => ?_)
      · have q : nI (wb s j) = nI 0 := by rw [← hbit]; exact q
        have w : ¬ s.testBit j = true := fun w => by
          rw [wb_tbi, if_pos w] at q
          exact absurd q (by decide)
        rw [if_neg w] at this
        exact this
      · have q : ¬ nI (wb s j) = nI 0 := by rw [← hbit]; exact q
        have w : s.testBit j = true := by
          rcases Bool.eq_false_or_eq_true (s.testBit j) with w | w
          · exact w
          · rw [wb_tbi, w] at q; exact absurd rfl q
        refine ix_i j rfl (show j < 8 by omega) ?_
        rw [if_pos w, ← (hc.2.2.2.2.2 j hjn).2.2] at this
        exact this
  exact key 0 (Nat.zero_le _)
theorem c_ordersOf {s : Nat} (hc : crC M 0 D) (hw : wf D) (h4 : 0 < D 4) (hs : s < 256) (hf : fc_ok M) (hA : ∀ k, k < D 4 - 1 → M.1 47 0 k = nI (bs (eap D k) (D 5))) (hK : K (some (vl (lN (prd D (fun e => s.testBit e) (D 4 - 1))))) M) : ab_Call (d + 1) 62 [vr 46 0, vi (nI s)] M K := by
  refine caX4_ordersOf rfl (atX4_ordersOf ?_)
  have hb := bnd_of hw
  obtain ⟨b3, b4, b5, b6, b7, b8⟩ := hb
  have key : ∀ k, k ≤ D 4 - 1 → ab_At miX4_ordersOf (d + 1) 5 [some (vr 46 0), some (vi (nI s)), some (vl (lN (prd D (fun e => s.testBit e) k))), none, some (vi (nI k))] [] M K := by
    refine up_ind fun k hk ih => ?_
    refine atX4_ordersOf ?_
    refine c_last (D := D) hc h4 ?_
    refine And.intro (fun h => ?_) (fun h => ?_)
    · have : k = D 4 - 1 := by have := nle_use h; omega
      subst this
      exact hK
    · have hkn := nlt_use h
      have eA := hA k hkn
      have l8 : (2 : Nat) ^ D 5 ≤ 2 ^ 8 := Nat.pow_le_pow_right (by omega) b5
      have a1 : M.1 47 0 k &&& nI s = nI (bs (fun e => eap D k e && s.testBit e) (D 5)) := by rw [eA, nI_and, bs_and]
      have a2 : M.1 47 0 k &&& (nI s ^^^ -1) = nI (bs (fun e => eap D k e && !s.testBit e) (D 5)) := by
        rw [eA, nI_andn (bs_lt _ _) (by omega)]
        congr 1
        refine bs_cong (fun e he => ?_)
        rw [bs_tb, decide_eq_true he, Bool.true_and]
      have q1 := bs_lt (fun e => eap D k e && s.testBit e) (D 5)
      have q2 := bs_lt (fun e => eap D k e && !s.testBit e) (D 5)
      refine ix_i k rfl (show k < 7 by omega) ?_
      refine c_bitCount a1 (by omega) ?_
      refine ix_i k rfl (show k < 7 by omega) ?_
      refine c_bitCount a2 (by omega) ?_
      rw [pc8_bs b5, pc8_bs b5]
      have hab := cAB D k (fun e => s.testBit e)
      have hcn : cN D k ≤ 5 := cN5 hw (by omega)
      have := ih hkn
      rw [← nI_1 k, prd, ← lN_mul, od] at this
      have hfa := fac_mono (show cA D k (fun e => s.testBit e) ≤ 8 by omega)
      have hfm : fac (cA D k (fun e => s.testBit e)) * fac (cB D k (fun e => s.testBit e)) ≤ fac 8 := Nat.le_trans (fac_mul _ _) (fac_mono (by omega))
      have f8 : fac 8 = 40320 := by decide
      rw [← nI_l (n := fac (cA D k (fun e => s.testBit e)) * fac (cB D k (fun e => s.testBit e))) (by omega), ← pk_mul, ← fc_at hf (by omega), ← fc_at hf (by omega)] at this
      change ab_At miX4_ordersOf (d + 1) 5 [some (vr 46 0), some (vi (nI s)), some (vl (lN (prd D (fun e => s.testBit e) k) * (M.1 70 0 (sm (fun e => b1 (eap D k e && s.testBit e)) (D 5)) * M.1 70 0 (sm (fun e => b1 (eap D k e && !s.testBit e)) (D 5))).toInt64)), none, some (vi (nI k + nI 1))] [] M K at this
      unfold cA cB at hab hfm
      generalize sm (fun e => b1 (eap D k e && s.testBit e)) (D 5) = A at this hab ⊢
      generalize sm (fun e => b1 (eap D k e && !s.testBit e)) (D 5) = B at this hab ⊢
      refine And.intro (fun q => absurd (nle_use (a := 6) q) (by omega)) (fun _ => ?_)
      refine And.intro (fun q => absurd (nle_use (a := 6) q) (by omega)) (fun _ => ?_)
      refine ix_i A rfl (show A < 6 by omega) ?_
      refine ix_i B rfl (show B < 6 by omega) ?_
      exact this
  exact key 0 (Nat.zero_le _)
theorem c_weigh {v : Int32} {b mi : Nat} (hc : crC M 0 D) (hw : wf D) (h4 : 0 < D 4) (hf : fc_ok M) (hv : ∀ a, a < 1000 → (v < nI a ↔ ¬ b + a ≤ mi)) (hK : ∀ M1, frS 47 47 M M1 → K none (pwM M1 (lN (sm (fun s => if b + lsS D (fun e => s.testBit e) ≤ mi then prd D (fun e => s.testBit e) (D 4 - 1) else 0) (2 ^ D 5))) (lN (sm (fun s => prd D (fun e => s.testBit e) (D 4 - 1)) (2 ^ D 5))))) : ab_Call (d + 2) 61 [vr 46 0, vi v] M K := by
  refine caX4_weigh rfl (atX4_weigh ?_)
  have hb := bnd_of hw
  have hb' := hb
  obtain ⟨b3, b4, b5, b6, b7, b8⟩ := hb'
  have l8 : (2 : Nat) ^ D 5 ≤ 2 ^ 8 := Nat.pow_le_pow_right (by omega) b5
  have snd : ∀ M1, frS 47 47 M M1 → (∀ k, k < D 4 - 1 → M1.1 47 0 k = nI (bs (eap D k) (D 5))) → ∀ s, s ≤ 2 ^ D 5 → ab_At miX4_weigh (d + 2) 45 [some (vr 46 0), some (vi v), some (vi (nI s))] [] (pwM M1 (lN (sm (fun s => if b + lsS D (fun e => s.testBit e) ≤ mi then prd D (fun e => s.testBit e) (D 4 - 1) else 0) s)) (lN (sm (fun s => prd D (fun e => s.testBit e) (D 4 - 1)) s))) K := by
    intro M1 f1 hA
    refine up_ind fun s hs ih => ?_
    refine atX4_weigh ?_
    have hc1 : crC M1 0 D := frS_cr f1 (by omega) hc
    have hf1 : fc_ok M1 := by
      unfold fc_ok wx_ok at *
      rw [f1.1, f1.2 70 0 (by omega)]
      exact hf
    have e5 : M1.1 14 0 2 = nI (D 5) := hc1.2.2.1
    have es : ab_shl (nI 1) (M1.1 14 0 2) = nI (2 ^ D 5) := by rw [e5, nI_shl1 (by omega)]
    generalize hp : lN (sm (fun s => if b + lsS D (fun e => s.testBit e) ≤ mi then prd D (fun e => s.testBit e) (D 4 - 1) else 0) s) = p
    generalize hq : lN (sm (fun s => prd D (fun e => s.testBit e) (D 4 - 1)) s) = w
    refine And.intro (fun h => ?_) (fun h => ?_)
    · have h : nI (2 ^ D 5) ≤ nI s := by rw [← es]; exact h
      have : s = 2 ^ D 5 := by have := nle_use h; omega
      subst this
      rw [← hp, ← hq]
      exact hK M1 f1
    · have h : nI s < nI (2 ^ D 5) := by rw [← es]; exact h
      have hsn := nlt_use h
      have := ih hsn
      rw [← nI_1 s, sm, sm, ← lN_add, ← lN_add, hp, hq, ← pwM_pwM M1 p w] at this
      refine c_ordersOf (M := pwM M1 p w) (s := s) hc1 hw h4 (by omega) hf1 hA ?_
      refine c_lengthOf (M := ab_sJ (pwM M1 p w) 46 0 4 (w + lN (prd D (fun e => s.testBit e) (D 4 - 1)))) (D := D) hc1 (by omega) hb (by omega) ?_
      have e2 : nI 2 * nI (sm (fun e => if s.testBit e then D (69 + e) else 0) (D 5)) = nI (lsS D (fun e => s.testBit e)) := by rw [pk_mul, ← lsS_2]
      have hl := lsS_le hw (fun e => s.testBit e)
      have hv := hv (lsS D (fun e => s.testBit e)) (by omega)
      refine And.intro (fun q => ?_) (fun q => ?_)
      · have q : v < nI (lsS D (fun e => s.testBit e)) := by rw [← e2]; exact q
        rw [if_neg (hv.mp q)] at this
        exact this
      · have q : nI (lsS D (fun e => s.testBit e)) ≤ v := by rw [← e2]; exact q
        have q2 : b + lsS D (fun e => s.testBit e) ≤ mi := by
          rcases Nat.lt_or_ge mi (b + lsS D (fun e => s.testBit e)) with w | w
          · exact absurd q (i_not_le (hv.mpr (by omega)))
          · exact w
        rw [if_pos q2] at this
        exact this
  have fst : ∀ k, k ≤ D 4 - 1 → ∀ M1, frS 47 47 M M1 → (∀ j, j < k → M1.1 47 0 j = nI (bs (eap D j) (D 5))) → ab_At miX4_weigh (d + 2) 12 [some (vr 46 0), some (vi v), some (vi (nI k))] [] (pwM M1 (lN 0) (lN 0)) K := by
    refine up_ind fun k hk ih M1 f1 hA => ?_
    refine atX4_weigh ?_
    have hc1 : crC M1 0 D := frS_cr f1 (by omega) hc
    refine c_last (M := pwM M1 (lN 0) (lN 0)) (D := D) hc1 h4 ?_
    refine And.intro (fun h => ?_) (fun h => ?_)
    · have : k = D 4 - 1 := by have := nle_use h; omega
      subst this
      exact snd M1 f1 hA 0 (Nat.zero_le _)
    · have hkn := nlt_use h
      refine c_endsAt (M := pwM M1 (lN 0) (lN 0)) (D := D) hc1 (by omega) hb (by omega) ?_
      refine ix_i k rfl (show k < 7 by omega) ?_
      have := ih hkn (ab_sI M1 47 0 k (nI (bs (eap D k) (D 5)))) (frS_sI f1 (by omega) (by omega)) (fun j hj => by
        by_cases e : j = k
        · subst e; exact sI_eq
        · rw [sI_ne (fun w => e w.2.2)]; exact hA j (by omega))
      rw [← nI_1 k] at this
      exact this
  exact fst 0 (Nat.zero_le _) M frS_refl (fun j hj => absurd hj (by omega))
end Weigh
