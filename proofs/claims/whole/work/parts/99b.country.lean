/-! ===== fault, country: the steps ===== -/
section CountryO
variable {d : Nat} {M : ab_M} {K : ab_K} {D : Nat → Nat}
theorem op_fault {x : Int32} (hR : Rel M) : OpI (d + 5) 111 183 [vi x] M := by
  rcases ix_cases x (n := 4) (by omega) with ⟨t, ht, rfl⟩ | hx
  · obtain ⟨e8, hm⟩ := hR.2.1 t ht
    rcases hm with hm | ⟨n, hn, e52, hc⟩
    · refine ab_Call_nr (caX9_fault rfl (atX9_fault ?_))
      refine c_refTm ht (e8.trans hm) ?_
      refine ab_Call_nr (caX10_fault rfl (atX10_fault (m_isText1 ht ?_)))
      refine ix_i t rfl ht ?_
      have e52' : (rfC M 1).1 52 0 t = -1 := hm
      refine And.intro (fun q => absurd q (by rw [e52']; decide)) (fun _ => ?_)
      refine m_found (by omega) (by omega) ?_
      exact ⟨⟨_, rfl, rfl⟩, Rel_rf 1 hR⟩
    · have e8' : M.1 8 0 t = nI n := e8.trans e52
      refine ab_Call_nr (caX9_fault rfl (atX9_fault ?_))
      refine c_refT1 ht hn e8' ?_
      refine ix_i t rfl ht ?_
      refine ix_i t rfl ht ?_
      have tail : ∀ M1, frA M M1 → ∀ r1 : Int32, (∀ q, P (M.1 7 t) n (fun _ => 0) 0 true = .inl q → r1 = nI q) → (∀ E, P (M.1 7 t) n (fun _ => 0) 0 true = .inr E → r1 = -9) → ab_Call (d + 5) 183 [vr 49 0, vi (nI t)] M1 (fun r2 M2 => (∃ v, some (vi r1) = some (vi v) ∧ r2 = some (vi v)) ∧ Rel M2) := by
        intro M1 f1 r1 hq hE
        have e52' : M1.1 52 0 t = nI n := by rw [f1.1 52 0 t (by unfold scr; omega)]; exact e52
        have ec : ∀ k, k < n → tc M1 t k = M.1 7 t k := fun k hk => by
          show M1.1 53 0 (80 * t + k) = _
          rw [f1.1 53 0 _ (by unfold scr; omega)]
          exact (hc k hk).symm
        have eP : P (tc M1 t) n (fun _ => 0) 0 true = P (M.1 7 t) n (fun _ => 0) 0 true := P_cong ec
        refine ab_Call_nr (caX10_fault rfl (atX10_fault (m_isText1 ht ?_)))
        refine ix_i t rfl ht ?_
        refine And.intro (fun _ => ?_) (fun q => absurd q (by rw [e52']; exact nI_pos (by omega)))
        refine m_reads (d := d + 1) ht e52' hn (fun q M2 a1 a2 => ?_) (fun E M2 a1 _ _ a2 _ => ?_)
        · rw [hq q (eP.symm.trans a1)]
          exact ⟨⟨_, rfl, rfl⟩, Rel_frA hR (frA_trans f1 (rfo_A a2))⟩
        · rw [hE E (eP.symm.trans a1)]
          exact ⟨⟨_, rfl, rfl⟩, Rel_frA hR (frA_trans f1 (rfo_A a2))⟩
      refine c_faultOf e8' ht hn (fun q M1 a1 _ f1 => ?_) (fun E M1 a1 _ _ f1 _ _ => ?_)
      · exact tail M1 f1 (nI q) (fun q' h => by rw [Sum.inl.inj (a1.symm.trans h)]) (fun E h => absurd (a1.symm.trans h) (by simp))
      · exact tail M1 f1 (-9) (fun q' h => absurd (a1.symm.trans h) (by simp)) (fun _ _ => rfl)
  · refine ab_Call_nr (caX9_fault rfl (atX9_fault (c_refT0 hx ?_)))
    refine ab_Call_nr (caX10_fault rfl (atX10_fault (m_isText0 hx ?_)))
    exact ⟨⟨_, rfl, rfl⟩, hR⟩
theorem op_country {x : Int32} (hR : Rel M) : OpI (d + 5) 112 185 [vi x] M := by
  obtain ⟨D, hw, hw2, hw3, hl, hc', hn', hk⟩ := Rel_D hR
  rcases ix_cases x (n := 4) (by omega) with ⟨t, ht, rfl⟩ | hx
  · obtain ⟨e8, hm⟩ := hR.2.1 t ht
    rcases hm with hm | ⟨n, hn, e52, hc⟩
    · refine ab_Call_nr (caX9_country rfl (atX9_country ?_))
      refine c_refTm ht (e8.trans hm) ?_
      refine ab_Call_nr (caX10_country rfl (atX10_country (m_isText1 ht ?_)))
      refine ix_i t rfl ht ?_
      have e52' : (rfC M 1).1 52 0 t = -1 := hm
      refine And.intro (fun q => absurd q (by rw [e52']; decide)) (fun _ => ?_)
      refine m_found (by omega) (by omega) ?_
      exact ⟨⟨_, rfl, rfl⟩, Rel_rf 1 hR⟩
    · have e8' : M.1 8 0 t = nI n := e8.trans e52
      have rdP : ∀ M1, M1.1 52 0 = M.1 52 0 → M1.1 53 0 = M.1 53 0 → M1.1 52 0 t = nI n ∧ P (tc M1 t) n (fun _ => 0) 0 true = P (M.1 7 t) n (fun _ => 0) 0 true := fun M1 a b => ⟨by rw [a]; exact e52, P_cong (fun k hk => by
          show M1.1 53 0 (80 * t + k) = _
          rw [b]
          exact (hc k hk).symm)⟩
      refine ab_Call_nr (caX9_country rfl (atX9_country ?_))
      refine c_refT1 ht hn e8' ?_
      refine ix_i t rfl ht ?_
      refine ix_i t rfl ht ?_
      refine c_faultOf e8' ht hn (fun q M1 a1 q83 f1 => ?_) (fun E M1 a1 hpE h2E f1 l1 e1 => ?_)
      · refine And.intro (fun z => absurd z (n9 (by omega))) (fun _ => ?_)
        obtain ⟨e52', eP⟩ := rdP M1 (frA_row f1 (fun k => by unfold scr; omega)) (frA_row f1 (fun k => by unfold scr; omega))
        refine ab_Call_nr (caX10_country rfl (atX10_country (m_isText1 ht ?_)))
        refine ix_i t rfl ht ?_
        refine And.intro (fun _ => ?_) (fun q => absurd q (by rw [e52']; exact nI_pos (by omega)))
        refine m_reads (d := d + 1) ht e52' hn (fun q' M2 b1 b2 => ?_) (fun E M2 b1 => absurd (a1.symm.trans (eP.symm.trans b1)) (by simp))
        have : q = q' := Sum.inl.inj (a1.symm.trans (eP.symm.trans b1))
        subst this
        refine And.intro (fun z => absurd z (n9 (by omega))) (fun _ => ?_)
        exact ⟨⟨_, rfl, rfl⟩, Rel_frA hR (frA_trans f1 (rfo_A b2))⟩
      · refine And.intro (fun _ => ?_) (fun z => absurd rfl z)
        refine c_takeL l1 hpE.1.2.1 (fun M2 g1 g2 l2 => ?_)
        refine caX1_startAnew rfl (atX1_startAnew ?_)
        have e13 : M2.1 13 0 1 = nI (E 3) := by rw [g2 13 0 1 (by omega) (by omega)]; exact e1
        have wE := pwf_wf hpE
        have kp : ∀ k, k ≤ 3 → ∀ M3 : ab_M, M3.2 = M2.2 → (∀ g i j, g ≠ 20 → M3.1 g i j = (ab_sI (ab_sI (ab_sI (ab_sI M2 14 0 0 (M2.1 13 0 1)) 14 0 1 (nI 0)) 14 0 2 (nI 0)) 14 0 3 (nI 0)).1 g i j) → (∀ j, j < k → M3.1 20 0 j = 0) → ab_At miX9_country (d + 5) 76 [some (vr 0 0), none, none, some (vi (nI k))] [] M3 (fun r M => ab_Call (d + 5) 185 [vr 49 0, vi (nI t)] M (fun r2 M2 => (∃ v, r.map ab_nr = some (vi v) ∧ r2 = some (vi v)) ∧ Rel M2)) := by
          refine up_ind fun k hk3 ih M3 c1 c2 c3 => ?_
          refine atX9_country ?_
          refine And.intro (fun q => ?_) (fun q => ?_)
          · have : k = 3 := by have := nle_use (a := 3) q; omega
            subst this
            have N3 : ∀ g i j, ¬ scr g i j → g ≠ 9 → g ≠ 10 → g ≠ 12 → g ≠ 14 → g ≠ 20 → M3.1 g i j = M.1 g i j := fun g i j a a9 a10 a12 a14 a20 => by
              rw [c2 g i j a20, sI_g a14, sI_g a14, sI_g a14, sI_g a14, g2 g i j (by omega) (by omega)]
              exact f1.1 g i j a
            have l3 : ldC M3 0 E := by
              obtain ⟨z0, z1, z2, z3, z4⟩ := l2
              exact ⟨by rw [c2 9 0 0 (by omega)]; exact z0, by rw [c2 9 0 1 (by omega)]; exact z1, by rw [c2 9 0 2 (by omega)]; exact z2, fun i hi => by rw [c2 10 0 i (by omega)]; exact z3 i hi, fun u hu v hv => by rw [c2 12 (7 * 0 + u) v (by omega)]; exact z4 u hu v hv⟩
            have r3 : crC M3 0 E := by
              refine ⟨?_, ?_, ?_, ?_, fun k hk => absurd hk (by rw [hpE.2.2.1]; omega), fun e he => absurd he (by rw [hpE.2.2.2.1]; omega)⟩
              · rw [c2 14 0 0 (by omega)]; exact e13
              · rw [c2 14 0 1 (by omega), hpE.2.2.1]; rfl
              · rw [c2 14 0 2 (by omega), hpE.2.2.2.1]; rfl
              · rw [c2 14 0 3 (by omega), hpE.2.2.2.2]; rfl
            obtain ⟨e52', eP⟩ := rdP M3 (by funext j; exact N3 52 0 j (by unfold scr; omega) (by omega) (by omega) (by omega) (by omega) (by omega)) (by funext j; exact N3 53 0 j (by unfold scr; omega) (by omega) (by omega) (by omega) (by omega) (by omega))
            refine ab_Call_nr (caX10_country rfl (atX10_country (m_isText1 ht ?_)))
            refine ix_i t rfl ht ?_
            refine And.intro (fun _ => ?_) (fun q => absurd q (by rw [e52']; exact nI_pos (by omega)))
            refine m_reads (d := d + 1) ht e52' hn (fun q' M4 b1 b2 => absurd (a1.symm.trans (eP.symm.trans b1)) (by simp)) (fun E' M4 b1 _ _ b2 b3 => ?_)
            have : E = E' := Sum.inr.inj (a1.symm.trans (eP.symm.trans b1))
            subst this
            refine And.intro (fun _ => ?_) (fun z => absurd rfl z)
            refine m_copies_58_54 (a := 0) (b := 0) rfl rfl (by omega) (by omega) ?_
            have kq : ∀ k, k ≤ 3 → ∀ M6 : ab_M, M6.2 = M4.2 → (∀ g i j, g ≠ 56 → M6.1 g i j = (sR M4 54 0 (cpf (M4.1 58 0) (M4.1 54 0) 0 0 78)).1 g i j) → (∀ j, j < k → M6.1 56 0 j = 0) → ab_At miX10_country (d + 5) 52 [some (vr 49 0), none, some (vi (nI k))] [] M6 (fun r M => (∃ v, Option.map ab_nr (some (vi (M3.1 9 0 0))) = some (vi v) ∧ r.map ab_nr = some (vi v)) ∧ Rel M) := by
              refine up_ind fun k hk3 ih M6 d1 d2 d3 => ?_
              refine atX10_country ?_
              refine And.intro (fun q => ?_) (fun q => ?_)
              · have : k = 3 := by have := nle_use (a := 3) q; omega
                subst this
                have n6 : nwM M6 54 0 E := fun j hj => by
                  rw [d2 54 0 _ (by omega), sR_eq]
                  unfold cpf
                  rw [if_pos ⟨by omega, by omega⟩, Nat.sub_zero]
                  have := b3 j hj
                  rw [Nat.zero_add] at this ⊢
                  rw [Nat.zero_add]
                  exact this
                have N6 : ∀ g i j, ¬ scr g i j → g ≠ 54 → g ≠ 56 → M6.1 g i j = M3.1 g i j := fun g i j a a54 a56 => by
                  rw [d2 g i j a56, sR_g a54]
                  exact (rfo_A b2).1 g i j a
                have F : ∀ {g i}, (∀ j, ¬ scr g i j) → g ≠ 9 → g ≠ 10 → g ≠ 12 → g ≠ 14 → g ≠ 20 → g ≠ 54 → g ≠ 56 → M6.1 g i = M.1 g i := fun a a9 a10 a12 a14 a20 a54 a56 => by
                  funext j
                  rw [N6 _ _ j (a j) a54 a56, N3 _ _ j (a j) a9 a10 a12 a14 a20]
                have e90 : M3.1 9 0 0 = M6.1 54 0 0 := by rw [l3.1, nw n6 (by omega)]
                refine ⟨⟨M3.1 9 0 0, rfl, by rw [e90]; rfl⟩, ?_⟩
                have J : ∀ g i j, g ≠ 46 → g ≠ 67 → M6.2.1 g i j = M.2.1 g i j := fun g i j a b => by
                  rw [d1, (rfo_A b2).2.1 g i j a b, c1, g1]
                  exact f1.2.1 g i j a b
                have X : ∀ g i j, g ≠ 13 → g ≠ 72 → M6.2.2 g i j = M.2.2 g i j := fun g i j a b => by
                  rw [d1, (rfo_A b2).2.2 g i j a b, c1, g1]
                  exact f1.2.2 g i j a b
                have L9 : ∀ {g i}, (∀ j, ¬ scr g i j) → g ≠ 54 → g ≠ 56 → M6.1 g i = M3.1 g i := fun a b c => by
                  funext j
                  exact N6 _ _ j (a j) b c
                refine Rel_new (E := E) hR (rw_fr hR.1 (F (fun k => by unfold scr; omega) (by omega) (by omega) (by omega) (by omega) (by omega) (by omega) (by omega)) (by funext i; exact F (fun k => by unfold scr; omega) (by omega) (by omega) (by omega) (by omega) (by omega) (by omega) (by omega)) (F (fun k => by unfold scr; omega) (by omega) (by omega) (by omega) (by omega) (by omega) (by omega) (by omega)) (F (fun k => by unfold scr; omega) (by omega) (by omega) (by omega) (by omega) (by omega) (by omega) (by omega))) (tx_fr hR.2.1 (F (fun k => by unfold scr; omega) (by omega) (by omega) (by omega) (by omega) (by omega) (by omega) (by omega)) (by funext i; exact F (fun k => by unfold scr; omega) (by omega) (by omega) (by omega) (by omega) (by omega) (by omega) (by omega)) (F (fun k => by unfold scr; omega) (by omega) (by omega) (by omega) (by omega) (by omega) (by omega) (by omega)) (F (fun k => by unfold scr; omega) (by omega) (by omega) (by omega) (by omega) (by omega) (by omega) (by omega))) ?_ (F (fun k => by unfold scr; omega) (by omega) (by omega) (by omega) (by omega) (by omega) (by omega) (by omega)) wE (Or.inr h2E) (fun q => absurd q (by omega)) (ldC_fr (M := M3) (L9 (fun k => by unfold scr; omega) (by omega) (by omega)) (L9 (fun k => by unfold scr; omega) (by omega) (by omega)) (fun u hu => L9 (fun k => by unfold scr; omega) (by omega) (by omega)) l3) (crC_fr (M := M3) ⟨L9 (fun k => by unfold scr; omega) (by omega) (by omega), L9 (fun k => by unfold scr; omega) (by omega) (by omega), L9 (fun k => by unfold scr; omega) (by omega) (by omega), L9 (fun k => by unfold scr; omega) (by omega) (by omega), L9 (fun k => by unfold scr; omega) (by omega) (by omega)⟩ r3) n6 (fun k hk3 => ⟨?_, Or.inl (d3 k hk3)⟩) ⟨X 49 0 27 (by omega) (by omega), X 49 0 28 (by omega) (by omega)⟩
                · obtain ⟨s1, s2, s3, s4, s5⟩ := hR.2.2.1
                  have Z : ∀ g i j, ¬ scr g i j → g ≠ 9 → g ≠ 10 → g ≠ 12 → g ≠ 14 → g ≠ 20 → g ≠ 54 → g ≠ 56 → M6.1 g i j = M.1 g i j := fun g i j a a9 a10 a12 a14 a20 a54 a56 => by rw [N6 _ _ j a a54 a56, N3 _ _ j a a9 a10 a12 a14 a20]
                  refine ⟨?_, ?_, ?_, ?_, fun f f1' f5 => ?_⟩
                  · rw [Z 0 0 14 (by unfold scr; omega) (by omega) (by omega) (by omega) (by omega) (by omega) (by omega) (by omega), Z 49 0 7 (by unfold scr; omega) (by omega) (by omega) (by omega) (by omega) (by omega) (by omega) (by omega)]; exact s1
                  · rw [J 0 0 15 (by omega) (by omega), J 49 0 8 (by omega) (by omega)]; exact s2
                  · rw [J 0 0 16 (by omega) (by omega), J 49 0 9 (by omega) (by omega)]; exact s3
                  · rw [Z 0 0 13 (by unfold scr; omega) (by omega) (by omega) (by omega) (by omega) (by omega) (by omega) (by omega), Z 49 0 10 (by unfold scr; omega) (by omega) (by omega) (by omega) (by omega) (by omega) (by omega) (by omega)]; exact s4
                  · rw [Z 48 0 f (by unfold scr; omega) (by omega) (by omega) (by omega) (by omega) (by omega) (by omega) (by omega), Z 57 0 f (by unfold scr; omega) (by omega) (by omega) (by omega) (by omega) (by omega) (by omega) (by omega)]; exact s5 f f1' f5
                · rw [d3 k hk3, N6 20 0 k (by unfold scr; omega) (by omega) (by omega)]
                  exact c3 k hk3
              · have hkn := nlt_use (b := 3) q
                refine ix_i k rfl (show _ < 3 by omega) ?_
                have b0 : vp_nar .boolean (nI 0) = 0 := by decide
                have := ih hkn (ab_sI M6 56 0 k 0) d1 (fun g i j a => by rw [sI_g a]; exact d2 g i j a) (fun j hj => by
                  by_cases e : j = k
                  · subst e; exact sI_eq
                  · rw [sI_k e]; exact d3 j (by omega))
                rw [← nI_1 k, ← b0] at this
                exact this
            exact kq 0 (Nat.zero_le _) _ rfl (fun _ _ _ _ => rfl) (fun j hj => absurd hj (by omega))
          · have hkn := nlt_use (b := 3) q
            refine ix_i k rfl (show _ < 3 by omega) ?_
            have b0 : vp_nar .boolean (nI 0) = 0 := by decide
            have := ih hkn (ab_sI M3 20 0 k 0) c1 (fun g i j a => by rw [sI_g a]; exact c2 g i j a) (fun j hj => by
              by_cases e : j = k
              · subst e; exact sI_eq
              · rw [sI_k e]; exact c3 j (by omega))
            rw [← nI_1 k, ← b0] at this
            exact this
        exact kp 0 (Nat.zero_le _) _ rfl (fun _ _ _ _ => rfl) (fun j hj => absurd hj (by omega))
  · refine ab_Call_nr (caX9_country rfl (atX9_country (c_refT0 hx ?_)))
    refine ab_Call_nr (caX10_country rfl (atX10_country (m_isText0 hx ?_)))
    exact ⟨⟨_, rfl, rfl⟩, hR⟩
end CountryO
