/-! ===== fault, country ===== -/
section Country
variable {d t n : Nat} {M : ab_M} {K : ab_K} {D : Nat → Nat}
theorem m_reads (ht : t < 4) (e52 : M.1 52 0 t = nI n) (hn : n ≤ 80) (h0 : ∀ q M', P (tc M t) n (fun _ => 0) 0 true = .inl q → rfo M M' → K (some (vi (nI q))) M') (hs : ∀ E M', P (tc M t) n (fun _ => 0) 0 true = .inr E → pwf E → 2 ≤ E 0 → rfo M M' → nwM M' 58 0 E → K (some (vi (-9))) M') : ab_Call (d + 3) 182 [vr 49 0, vi (nI t)] M K := by
  refine ab_Call_nr (caX10_reads rfl (atX10_reads ?_))
  have key : ∀ r D p b M3, p + r = n → rfo M M3 → M3.1 49 0 13 = nI p → nwM M3 58 0 D → pwf D → (b = false → 2 ≤ D 0) → (b = true → D 1 = 0 ∧ D 2 = 0) → P (tc M t) n (fun _ => 0) 0 true = P (tc M t) n D p b → ab_At miX10_reads (d + 3) 28 [some (vr 49 0), some (vi (nI t)), some (vi (nI (if b then 0 else 1)))] [] M3 (fun r M => K (r.map ab_nr) M) := by
    intro r
    induction r using Nat.strongRecOn with
    | ind r ih =>
      intro D p b M3 hr r3 e13 n3 hp h2 hz hP
      refine atX10_reads ?_
      have e52' : M3.1 52 0 t = nI n := by rw [r3.2 52 0 t (by omega) (by omega)]; exact e52
      have ec : tc M3 t = tc M t := tc_fr r3
      refine ix_i t rfl ht ?_
      refine And.intro (fun q => ?_) (fun q => ?_)
      · rw [e52', e13] at q
        have q := nle_use q
        rw [P_end q] at hP
        cases b with
        | true =>
          refine And.intro (fun _ => ?_) (fun w => absurd rfl w)
          have := h0 p M3 hP r3
          rw [← e13] at this
          exact this
        | false =>
          refine And.intro (fun w => absurd w (by decide)) (fun _ => ?_)
          exact hs D M3 hP hp (h2 rfl) r3 n3
      · rw [e52', e13] at q
        have hpn := nlt_use q
        refine m_byteAt ht e52' e13 hn (by omega) (fun _ => ?_) (fun w => by omega)
        rw [ec]
        have nxt : ∀ q E M5, P (tc M t) n D p b = P (tc M t) n E q false → p < q → q ≤ n → pwf E → 2 ≤ E 0 → rfo M M5 → nwM M5 58 0 E → M5.1 49 0 13 = nI q → ab_At miX10_reads (d + 3) 28 [some (vr 49 0), some (vi (nI t)), some (vi (nI 1))] [] M5 (fun r M => K (r.map ab_nr) M) := by
          intro q E M5 a1 a2 a3 a4 a5 a6 a7 a8
          exact ih (n - q) (by omega) E q false M5 (by omega) a6 a8 a7 a4 (fun _ => a5) (fun z => absurd z (by decide)) (hP.trans a1)
        have bad : ∀ q M5, ¬ tc M t p = nI 32 → itm (tc M t) n D p b = .inl q → rfo M M5 → M5.1 49 0 13 = nI q → K (some (vi (M5.1 49 0 13))) M5 := by
          intro q M5 a0 a1 a2 a3
          have := h0 q M5 (hP.trans (P_no hpn a0 a1)) a2
          rw [← a3] at this
          exact this
        refine And.intro (fun w => ?_) (fun w => ?_)
        · have w : ¬ tc M t p = nI 32 := w
          cases b with
          | true =>
            refine And.intro (fun z => absurd rfl z) (fun _ => ?_)
            obtain ⟨z1, z2⟩ := hz rfl
            refine m_takesFirst (D := D) ht e52' e13 hn hpn n3 (fun q M5 a1 a2 a3 => ?_) (fun q f g M5 a1 f2 f7 g9 a2 a3 a4 => ?_)
            · rw [ec] at a1
              exact bad q M5 w a1 (rfo_trans r3 a2) a3
            · rw [ec] at a1
              have a1' : itm (tc M t) n D p true = .inr (q, adO D f g) := a1
              obtain ⟨w1, w2⟩ := pwf_O hp z1 z2 f2 f7 g9
              exact nxt q (adO D f g) M5 (P_yes hpn w a1') (itm_up a1') (itm_le hpn a1') w1 w2 (rfo_trans r3 a2) a3 a4
          | false =>
            refine And.intro (fun _ => ?_) (fun z => absurd z (by decide))
            refine m_byteAt ht e52' e13 hn (by omega) (fun _ => ?_) (fun w => by omega)
            rw [ec]
            refine And.intro (fun z => ?_) (fun z => ?_)
            · have ei : itm (tc M t) n D p false = itH (tc M t) D p := by
                show (if tc M t p = nI 45 then _ else _) = _
                exact if_neg z
              refine m_takesHound (D := D) ht e52' e13 hn hpn n3 hp (fun q a1 a3 => ?_) (fun kd M5 a1 k5 d2 d1 a2 a3 a4 => ?_)
              · rw [ec] at a1
                exact bad q M3 w (ei.trans a1) r3 a3
              · rw [ec] at a1
                have a1' := ei.trans a1
                refine nxt (p + 1) (adH D kd) M5 (P_yes hpn w a1') (itm_up a1') (itm_le hpn a1') (pwf_H hp d2 d1 k5) ?_ (rfo_trans r3 a2) a3 a4
                show 2 ≤ (if 0 = 1 then _ else if 0 = 6 + D 1 then _ else D 0)
                rw [if_neg (by omega), if_neg (by omega)]
                exact h2 rfl
            · have ei : itm (tc M t) n D p false = itP (tc M t) n D p := by
                show (if tc M t p = nI 45 then _ else _) = _
                exact if_pos z
              refine m_takesPath (D := D) ht e52' e13 hn hpn n3 hp (h2 rfl) (fun q M5 a1 a2 a3 => ?_) (fun x y m M5 a1 d2 hx hy hxy m1 m9 a2 a3 a4 => ?_)
              · rw [ec] at a1
                exact bad q M5 w (ei.trans a1) (rfo_trans r3 a2) a3
              · rw [ec] at a1
                have a1' := ei.trans a1
                refine nxt (p + 4) (adP D x y m) M5 (P_yes hpn w a1') (itm_up a1') (itm_le hpn a1') (pwf_P hp d2 hx hy hxy m1 m9) ?_ (rfo_trans r3 a2) a3 a4
                rw [adP_lo (by omega) (by omega) (by omega) (by omega)]
                exact h2 rfl
        · have w : tc M t p = nI 32 := w
          exact ih (r - 1) (by omega) D (p + 1) b _ (by omega) (rfo_13 r3) (by rw [sI_eq, e13, nI_add]) n3 hp h2 hz (hP.trans (P_blank hpn w))
  have zer : ∀ k, k ≤ 78 → ∀ M3, rfo M M3 → (∀ j, j < k → M3.1 58 0 j = nI 0) → ab_At miX10_reads (d + 3) 2 [some (vr 49 0), some (vi (nI t)), some (vi (nI k))] [] M3 (fun r M => K (r.map ab_nr) M) := by
    refine up_ind fun k hk ih M3 r3 h3 => ?_
    refine atX10_reads ?_
    refine And.intro (fun q => ?_) (fun q => ?_)
    · have : k = 78 := by have := nle_use (a := 78) q; omega
      subst this
      have hz : pwf (fun _ => 0) := ⟨⟨by show 0 ≤ 7; omega, by show 0 ≤ 4; omega, by show 0 ≤ 12; omega, fun i hi => by show 0 ≤ 5; omega, fun k hk => absurd hk (by show ¬ k < 0; omega)⟩, by show 0 ≤ 9; omega, rfl, rfl, rfl⟩
      exact key n (fun _ => 0) 0 true (ab_sI M3 49 0 13 (nI 0)) (by omega) (rfo_13 r3) sI_eq (fun j hj => by rw [Nat.zero_add]; exact h3 j hj) hz (fun z => absurd z (by decide)) (fun _ => ⟨rfl, rfl⟩) rfl
    · have hk8 := nlt_use (b := 78) q
      refine ix_i k rfl (show _ < 78 by omega) ?_
      have := ih hk8 (ab_sI M3 58 0 k (nI 0)) (rfo_58 r3) (fun j hj => by
        by_cases e : j = k
        · subst e; exact sI_eq
        · rw [sI_k e]; exact h3 j (by omega))
      rw [← nI_1 k] at this
      exact this
  exact zer 0 (Nat.zero_le _) M rfo_refl (fun j hj => absurd hj (by omega))
theorem c_takeL {E : Nat → Nat} (hl : ldC M 1 E) (h4 : E 1 ≤ 4) (hK : ∀ M', M'.2 = M.2 → (∀ g i k, ¬ ((g = 9 ∨ g = 10) ∧ i = 0) → ¬ (g = 12 ∧ i < 7) → M'.1 g i k = M.1 g i k) → ldC M' 0 E → K none M') : ab_Call (d + 1) 48 [vr 9 0, vr 9 1] M K := by
  refine caX3_take rfl (atX3_take ?_)
  refine cp_i 0 0 4 rfl rfl rfl (Nat.le_of_ble_eq_true rfl) (Nat.le_of_ble_eq_true rfl) ?_
  have key : ∀ x, x ≤ 7 → ∀ M3 : ab_M, M3.2 = M.2 → (∀ g i k, ¬ ((g = 9 ∨ g = 10) ∧ i = 0) → ¬ (g = 12 ∧ i < 7) → M3.1 g i k = M.1 g i k) → (M3.1 9 0 0 = nI (E 0) ∧ M3.1 9 0 1 = nI (E 1) ∧ M3.1 9 0 2 = nI (E 2) ∧ ∀ i, i < E 1 → M3.1 10 0 i = nI (E (6 + i))) → (∀ u, u < x → ∀ v, v < 7 → M3.1 12 (7 * 0 + u) v = nI (pm E u v)) → ab_At miX3_take (d + 1) 40 [some (vr 9 0), some (vr 9 1), some (vi (nI x))] [] M3 K := by
    refine up_ind fun x hx ih M3 f2 f3 h9 h12 => ?_
    refine atX3_take ?_
    refine And.intro (fun q => ?_) (fun q => ?_)
    · have : x = 7 := by have := nle_use (a := 7) q; omega
      subst this
      exact hK M3 f2 f3 ⟨h9.1, h9.2.1, h9.2.2.1, h9.2.2.2, fun u hu v hv => h12 u hu v hv⟩
    · have hxn := nlt_use (b := 7) q
      refine ix_i x rfl (show _ < 7 by omega) ?_
      refine ix_i x rfl (show _ < 7 by omega) ?_
      refine cp_i 0 0 7 rfl rfl rfl (Nat.le_of_ble_eq_true rfl) (Nat.le_of_ble_eq_true rfl) ?_
      have := ih hxn (ab_sC M3 12 (7 * 1 + x) 0 12 (7 * 0 + x) 0 7) f2 (fun g i k a b => by
        show (if g = 12 ∧ i = 7 * 0 + x ∧ 0 ≤ k ∧ k < 0 + 7 then _ else M3.1 g i k) = _
        rw [if_neg (by omega)]
        exact f3 g i k a b) h9 (fun u hu v hv => by
        show (if 12 = 12 ∧ 7 * 0 + u = 7 * 0 + x ∧ 0 ≤ v ∧ v < 0 + 7 then M3.1 12 (7 * 1 + x) (0 + (v - 0)) else M3.1 12 (7 * 0 + u) v) = _
        by_cases e : u = x
        · subst e
          rw [if_pos ⟨rfl, rfl, by omega, by omega⟩, Nat.sub_zero, Nat.zero_add, f3 12 (7 * 1 + u) v (by omega) (by omega)]
          exact hl.2.2.2.2 u (by omega) v hv
        · rw [if_neg (by omega)]
          exact h12 u (by omega) v hv)
      rw [← nI_1 x] at this
      exact this
  refine key 0 (Nat.zero_le _) _ rfl (fun g i k a b => ?_) ⟨?_, ?_, ?_, fun i hi => ?_⟩ (fun u hu => absurd hu (by omega))
  · simp only [ab_sC]
    rw [if_neg (fun z => a ⟨Or.inr z.1, z.2.1⟩), sI_ne (fun z => a ⟨Or.inl z.1, z.2.1⟩), sI_ne (fun z => a ⟨Or.inl z.1, z.2.1⟩), sI_ne (fun z => a ⟨Or.inl z.1, z.2.1⟩)]
  · simp [ab_sC, ab_sI]
    exact hl.1
  · simp [ab_sC, ab_sI]
    exact hl.2.1
  · simp [ab_sC, ab_sI]
    exact hl.2.2.1
  · have h4' : i < 4 := by omega
    simp [ab_sC, ab_sI, h4']
    exact hl.2.2.2.1 i hi
end Country
