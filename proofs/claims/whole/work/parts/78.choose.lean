/-! ===== fewest: the class's choice ===== -/
section Choose
variable {d : Nat} {M : ab_M} {K : ab_K} {D : Nat → Nat}
/-- while ends are chosen -/
def chz (D E : Nat → Nat) (M0 M : ab_M) : Prop := frA M0 M ∧ tb M E ∧ hdC M (D 1) (kds D) ∧ M.1 39 0 5 = nI (cnt D 70) ∧ opn D M 40 70
theorem chz_S {E : Nat → Nat} {M0 M M' : ab_M} (h : chz D E M0 M) (f : frS 21 38 M M') (hd : hdC M' (D 1) (kds D)) : chz D E M0 M' :=
  ⟨frA_trans h.1 (frA_S f (by omega)), tb_S h.2.1 f (by omega), hd, by rw [f.2 39 0 (by omega)]; exact h.2.2.2.1, opn_fr h.2.2.2.2 (fun k => by rw [f.2 40 0 (by omega)])⟩
theorem c_choose (hl : ldC M 0 D) (hc : crC M 0 D) (hw : wf D) : ∀ (r : Nat) (E : Nat → Nat) (dp s : Nat) (M1 : ab_M) (K : ab_K), dp + r ≤ 3 → D 5 + (dp + r) ≤ 8 → mor D E dp s → s ≤ 70 → chz D E M M1 → pf D r E s → (∀ M', chz D E M M' → (∀ k, k < dp → M'.1 41 0 k = M1.1 41 0 k) → nn D r E s → K (some (.inl 0)) M') → (∀ M' L, chz D E M M' → (∀ k, k < dp → M'.1 41 0 k = M1.1 41 0 k) → L.length = r → fd D L E s → (∀ k (hk : k < L.length), M'.1 41 0 (dp + k) = nI L[k]) → K (some (.inl 1)) M') → ab_Call (d + r + 4) 70 [vr 39 0, vi (nI dp), vi (nI (dp + r)), vi (nI (cnt D s))] M1 K := by
  have hb := bnd_of hw
  intro r
  induction r with
  | zero =>
    intro E dp s M1 K h3 h8 hm hs hz _ k0 k1
    refine caX5_choose rfl (atX5_choose ?_)
    have e3 : M1.1 14 0 2 = nI (D 5) := (frA_cr hz.1 (by omega) hc).2.2.1
    have x1 : E 1 = D 1 := hm.2.2.1 1 (by omega) (by omega)
    have w1 := hw.1.2.1
    have xk : ∀ i, i < D 1 → kds E i = kds D i := fun i hi => hm.2.2.1 (6 + i) (by omega) (by omega)
    have hz2 : chz D E M (ab_sI M1 14 4 2 (M1.1 14 0 2 + nI dp)) := ⟨frA_sI hz.1 (by unfold scr; omega), tb_fr hz.2.1 rfl rfl rfl rfl rfl rfl rfl, hz.2.2.1, hz.2.2.2.1, hz.2.2.2.2⟩
    have hd2 : hdC (ab_sI M1 14 4 2 (M1.1 14 0 2 + nI dp)) (E 1) (kds E) := ⟨by rw [x1]; exact hz.2.2.1.1, fun i hi => by rw [x1] at hi; rw [xk i hi]; exact hz.2.2.1.2 i hi⟩
    have back : ∀ {M'}, hdC M' (E 1) (kds E) → hdC M' (D 1) (kds D) := fun h => ⟨by have := h.1; rw [x1] at this; exact this, fun i hi => by have := h.2 i (by rw [x1]; exact hi); rw [xk i hi] at this; exact this⟩
    refine c_pursueTillCaught (M := ab_sI M1 14 4 2 (M1.1 14 0 2 + nI dp)) (D := E) (ldC_cong (fun j hj => hm.2.2.1 j (by omega) (by omega)) hw.1 (frA_ld hz2.1 hl)) (tb_cr hz2.2.1 (by rw [sI_eq, e3, nI_add, hm.2.1])) hm.1 hd2 hm.1.1.2.1 (fun i hi => hm.1.1.2.2.2.1 i hi) (fun M' k f' h' k1' k2' k3' k4' => ?_) (fun M' f' h' k4' => ?_)
    · have hk9 : ¬ nI k = -9 := n9 (by have := (bnd_of hm.1).2.1; omega)
      refine And.intro (fun q => absurd q hk9) (fun _ => ?_)
      refine And.intro (fun _ => ?_) (fun q => absurd (nlt_use q) (by omega))
      refine And.intro (fun _ => ?_) (fun q => absurd q hk9)
      exact k0 M' (chz_S hz2 f' (back h')) (fun j _ => by rw [f'.2 41 0 (by omega)]; rfl) (fun w => w k k1' k2' k3')
    · refine And.intro (fun _ => ?_) (fun q => absurd rfl q)
      refine And.intro (fun q => absurd rfl q) (fun _ => ?_)
      exact k1 M' [] (chz_S hz2 f' (back h')) (fun j _ => by rw [f'.2 41 0 (by omega)]; rfl) rfl k4' (fun k hk => absurd hk (by simp))
  | succ r ih =>
    intro E dp s M1 K h3 h8 hm hs hz hpf k0 k1
    refine caX5_choose rfl (atX5_choose ?_)
    have e3' : M1.1 14 0 2 = nI (D 5) := (frA_cr hz.1 (by omega) hc).2.2.1
    have x1 : E 1 = D 1 := hm.2.2.1 1 (by omega) (by omega)
    have x4 : E 4 = D 4 := hm.2.2.1 4 (by omega) (by omega)
    have w1 := hw.1.2.1
    have b4 := hb.2.1
    have hbE := bnd_of hm.1
    have xk : ∀ i, i < D 1 → kds E i = kds D i := fun i hi => hm.2.2.1 (6 + i) (by omega) (by omega)
    have hz2 : chz D E M (ab_sI M1 14 4 2 (M1.1 14 0 2 + nI dp)) := ⟨frA_sI hz.1 (by unfold scr; omega), tb_fr hz.2.1 rfl rfl rfl rfl rfl rfl rfl, hz.2.2.1, hz.2.2.2.1, hz.2.2.2.2⟩
    have hd2 : hdC (ab_sI M1 14 4 2 (M1.1 14 0 2 + nI dp)) (E 1) (kds E) := ⟨by rw [x1]; exact hz.2.2.1.1, fun i hi => by rw [x1] at hi; rw [xk i hi]; exact hz.2.2.1.2 i hi⟩
    have back : ∀ {M'}, hdC M' (E 1) (kds E) → hdC M' (D 1) (kds D) := fun h => ⟨by have := h.1; rw [x1] at this; exact this, fun i hi => by have := h.2 i (by rw [x1]; exact hi); rw [xk i hi] at this; exact this⟩
    refine c_pursueTillCaught (M := ab_sI M1 14 4 2 (M1.1 14 0 2 + nI dp)) (D := E) (ldC_cong (fun j hj => hm.2.2.1 j (by omega) (by omega)) hw.1 (frA_ld hz2.1 hl)) (tb_cr hz2.2.1 (by rw [sI_eq, e3', nI_add, hm.2.1])) hm.1 hd2 hm.1.1.2.1 (fun i hi => hm.1.1.2.2.2.1 i hi) (fun M' kc f' h' k1' k2' k3' k4' => ?_) (fun M' f' h' k4' => absurd k4' hpf.1)
    have hk9 : ¬ nI kc = -9 := n9 (by omega)
    refine And.intro (fun q => absurd q hk9) (fun _ => ?_)
    refine And.intro (fun q => absurd (nle_use q) (by omega)) (fun _ => ?_)
    refine And.intro (fun _ => ?_) (fun q => absurd (nle_use (a := 3) q) (by omega))
    have hz3 := chz_S hz2 f' (back h')
    have h41 : ∀ k, k < dp → M'.1 41 0 k = M1.1 41 0 k := fun j _ => by rw [f'.2 41 0 (by omega)]; rfl
    have key : ∀ n, n ≤ cnt D 70 → ∀ s', s ≤ s' → s' ≤ 70 → cnt D s' = n → (∀ c, s ≤ c → c < s' → adB D c = true → nn D r (l5 E c) (c + 1)) → ∀ M3, chz D E M M3 → (∀ k, k < dp → M3.1 41 0 k = M1.1 41 0 k) → ab_At miX5_choose (d + (r + 1) + 4) 66 [some (vr 39 0), some (vi (nI dp)), some (vi (nI (dp + (r + 1)))), none, some (vi (nI kc)), some (vi (nI n))] [] M3 K := by
      refine up_ind fun n hn ihn s' hs1 hs2 hcn hno M3 hz3 h41 => ?_
      refine atX5_choose ?_
      have hcl := cnt_all hw.1
      have e39 := hz3.2.2.2.1
      refine And.intro (fun q => ?_) (fun q => ?_)
      · rw [e39] at q
        have : n = cnt D 70 := by have := nle_use q; omega
        refine k0 M3 hz3 h41 (fun c q1 q2 q3 => ?_)
        rcases Nat.lt_or_ge c s' with w | w
        · exact hno c q1 w q3
        · have y1 := cnt_mono (D := D) w
          have y2 := cnt_mono (D := D) (show c + 1 ≤ 70 by omega)
          rw [cnt_1 q3] at y2
          omega
      · rw [e39] at q
        have hnn := nlt_use q
        obtain ⟨c0, z1, z2, z3, z4, z5⟩ := cnt_next (D := D) (70 - s') s' (by omega) (by omega)
        have e40 : M3.1 40 0 n = nI c0 := by rw [← hcn, ← z4]; exact hz3.2.2.2.2 c0 z2 z3
        have hc3 := frA_cr hz3.1 (show 0 < 4 by omega) hc
        have e3 : M3.1 14 0 2 = nI (D 5) := hc3.2.2.1
        have n1 : cnt D (c0 + 1) = n + 1 := by rw [cnt_1 z3]; omega
        have before : ∀ c', s ≤ c' → c' < c0 → adB D c' = true → nn D r (l5 E c') (c' + 1) := fun c' q1 q2 q3 => by
          rcases Nat.lt_or_ge c' s' with w | w
          · exact hno c' q1 w q3
          · rw [z5 c' w q2] at q3
            exact absurd q3 (by decide)
        have cont : nn D r (l5 E c0) (c0 + 1) → ∀ M4, chz D E M M4 → (∀ k, k < dp → M4.1 41 0 k = M1.1 41 0 k) → ab_At miX5_choose (d + (r + 1) + 4) 66 [some (vr 39 0), some (vi (nI dp)), some (vi (nI (dp + (r + 1)))), none, some (vi (nI kc)), some (vi (nI n + nI 1))] [] M4 K := by
          intro hnn0 M4 g1 g2
          have := ihn hnn (c0 + 1) (by omega) (by omega) n1 (fun c q1 q2 q3 => by
            by_cases w : c = c0
            · subst w; exact hnn0
            · exact before c q1 (by omega) q3) M4 g1 g2
          rw [← nI_1 n] at this
          exact this
        have hm' := mor_l hm (by omega) (by omega) z2 z3
        have h5E : E 5 < 8 := by have := hm.2.1; omega
        have hz4 : chz D (l5 E c0) M (seM (ab_sI M3 41 0 dp (M3.1 40 0 n)) (D 5 + dp) (c0 / 10) (c0 % 10) 5) := by
          refine ⟨frA_se (frA_sI hz3.1 (by unfold scr; omega)), ?_, hz3.2.2.1, hz3.2.2.2.1, hz3.2.2.2.2⟩
          have := tb_ly (M := ab_sI M3 41 0 dp (M3.1 40 0 n)) (x := c0 / 10) (y := c0 % 10) (m := 5) (tb_fr hz3.2.1 rfl rfl rfl rfl rfl rfl rfl) hbE h5E
          rw [hm.2.1] at this
          exact this
        have unz : ∀ {M4}, chz D (l5 E c0) M M4 → chz D E M M4 := fun h => ⟨h.1, tb_un h.2.1 hbE h5E, h.2.2⟩
        have nxt : ∀ K : ab_K, (∀ M', chz D (l5 E c0) M M' → (∀ k, k < dp + 1 → M'.1 41 0 k = (seM (ab_sI M3 41 0 dp (M3.1 40 0 n)) (D 5 + dp) (c0 / 10) (c0 % 10) 5).1 41 0 k) → nn D r (l5 E c0) (c0 + 1) → K (some (.inl 0)) M') → (∀ M' L, chz D (l5 E c0) M M' → (∀ k, k < dp + 1 → M'.1 41 0 k = (seM (ab_sI M3 41 0 dp (M3.1 40 0 n)) (D 5 + dp) (c0 / 10) (c0 % 10) 5).1 41 0 k) → L.length = r → fd D L (l5 E c0) (c0 + 1) → (∀ k (hk : k < L.length), M'.1 41 0 (dp + 1 + k) = nI L[k]) → K (some (.inl 1)) M') → ab_Call (d + r + 4) 70 [vr 39 0, vi (nI dp + nI 1), vi (nI (dp + (r + 1))), vi (nI n + nI 1)] (seM (ab_sI M3 41 0 dp (M3.1 40 0 n)) (D 5 + dp) (c0 / 10) (c0 % 10) 5) K := by
          intro K q0 q1
          have := ih (l5 E c0) (dp + 1) (c0 + 1) (seM (ab_sI M3 41 0 dp (M3.1 40 0 n)) (D 5 + dp) (c0 / 10) (c0 % 10) 5) K (by omega) (by omega) hm' (by omega) hz4 (hpf.2 c0 (by omega) z2 z3) q0 q1
          rw [show dp + 1 + r = dp + (r + 1) by omega, n1, ← nI_1 dp, ← nI_1 n] at this
          exact this
        have c41 : ∀ k, k < dp → (seM (ab_sI M3 41 0 dp (M3.1 40 0 n)) (D 5 + dp) (c0 / 10) (c0 % 10) 5).1 41 0 k = M3.1 41 0 k := fun k hk => sI_k (M := M3) (by omega)
        have c41d : (seM (ab_sI M3 41 0 dp (M3.1 40 0 n)) (D 5 + dp) (c0 / 10) (c0 % 10) 5).1 41 0 dp = M3.1 40 0 n := sI_eq (M := M3)
        refine ix_i n rfl (show n < 24 by omega) ?_
        refine And.intro (fun _ => ?_) (fun q => ?_)
        · refine ix_i dp rfl (show dp < 3 by omega) ?_
          refine And.intro (by decide) ?_
          refine And.intro (by decide) ?_
          refine c_setEnd (M := ab_sI M3 41 0 dp (M3.1 40 0 n)) (e := D 5 + dp) (x := c0 / 10) (y := c0 % 10) (m := 5) (by rw [show (ab_sI M3 41 0 dp (M3.1 40 0 n)).1 14 0 2 = M3.1 14 0 2 from rfl, e3, nI_add]) (by rw [e40]; exact pk_div (by omega) (by omega) (by omega)) (by rw [e40]; exact pk_rem (by omega) (by omega) (by omega)) rfl (by omega) ?_
          refine nxt _ (fun M4 g1 g2 g3 => ?_) (fun M4 L g1 g2 g3 g4 g5 => ?_)
          · exact cont g3 M4 (unz g1) (fun k hk => (g2 k (by omega)).trans ((c41 k hk).trans (h41 k hk)))
          · refine k1 M4 (c0 :: L) (unz g1) (fun k hk => (g2 k (by omega)).trans ((c41 k hk).trans (h41 k hk))) (by rw [List.length_cons, g3]) ⟨by omega, z2, z3, by rw [g3]; exact before, g4⟩ (fun k hk => ?_)
            cases k with
            | zero => exact ((g2 dp (by omega)).trans c41d).trans e40
            | succ k =>
              have := g5 k (by rw [List.length_cons] at hk; omega)
              rw [show dp + 1 + k = dp + (k + 1) by omega] at this
              exact this
        · have hr0 : r = 0 := by
            have q : nI (dp + 1) = nI (dp + (r + 1)) := by rw [← nI_1 dp]; exact q
            have := neq_use q
            omega
          refine And.intro (by decide) ?_
          obtain ⟨kk, kk1, kk2, _⟩ := (adB_use z3).2.2
          refine c_indexOf_e (X := c0 / 10) (by rw [e40]; exact pk_div (by omega) (by omega) (by omega)) hc3 hb (by omega) (fun ki i1 i2 _ => ?_) (fun w => absurd kk2 (w kk (by omega)))
          refine And.intro (fun _ => ?_) (fun q => ?_)
          · refine ix_i dp rfl (show dp < 3 by omega) ?_
            refine And.intro (by decide) ?_
            refine And.intro (by decide) ?_
            refine c_setEnd (M := ab_sI M3 41 0 dp (M3.1 40 0 n)) (e := D 5 + dp) (x := c0 / 10) (y := c0 % 10) (m := 5) (by rw [show (ab_sI M3 41 0 dp (M3.1 40 0 n)).1 14 0 2 = M3.1 14 0 2 from rfl, e3, nI_add]) (by rw [e40]; exact pk_div (by omega) (by omega) (by omega)) (by rw [e40]; exact pk_rem (by omega) (by omega) (by omega)) rfl (by omega) ?_
            refine nxt _ (fun M4 g1 g2 g3 => ?_) (fun M4 L g1 g2 g3 g4 g5 => ?_)
            · exact cont g3 M4 (unz g1) (fun k hk => (g2 k (by omega)).trans ((c41 k hk).trans (h41 k hk)))
            · refine k1 M4 (c0 :: L) (unz g1) (fun k hk => (g2 k (by omega)).trans ((c41 k hk).trans (h41 k hk))) (by rw [List.length_cons, g3]) ⟨by omega, z2, z3, by rw [g3]; exact before, g4⟩ (fun k hk => ?_)
              cases k with
              | zero => exact ((g2 dp (by omega)).trans c41d).trans e40
              | succ k =>
                have := g5 k (by rw [List.length_cons] at hk; omega)
                rw [show dp + 1 + k = dp + (k + 1) by omega] at this
                exact this
          · have q := nle_use q
            refine cont ?_ M3 hz3 h41
            subst hr0
            intro w
            refine w kc k1' (by rw [show l5 E c0 4 = E 4 from lyD_o (by omega) (by omega) (by omega) (by omega)]; exact k2') ?_
            exact (prune (i := ki) hm.1 h5E (by omega) (by rw [hm.2.2.1 (46 + ki) (by omega) (by omega)]; exact i2) (by omega)).mpr k3'
    exact key (cnt D s) (cnt_mono hs) s (Nat.le_refl _) hs rfl (fun c q1 q2 => by omega) M' hz3 h41
end Choose
