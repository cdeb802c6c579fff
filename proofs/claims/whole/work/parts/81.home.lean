/-! ===== fewest: the reference's homeBy ===== -/
def frH (n : Nat) (M M' : ab_M) : Prop := frJ n M M' ∧ M'.1 49 0 18 = M.1 49 0 18 ∧ ∀ k, M'.1 62 0 k = M.1 62 0 k
section HomeBy
variable {d : Nat} {M : ab_M} {K : ab_K} {D : Nat → Nat}
theorem m_homeBy1 {E0 : Nat → Nat} {r : Nat} (hr : r < 6) (hn : nwM M 54 0 E0) (hq : Dq D 1 E0) (hw : wf D) (h4 : 0 < D 4) (h8 : D 5 + 1 ≤ 8) (e18 : M.1 49 0 18 = nI (cnt D 70)) (ho : opn D M 62 70) (k0 : ∀ M', frH (D 5) M M' → (∃ E, nwM M' 54 0 E ∧ Dq D 1 E) → nn D 1 D 0 → K (some (.inl 0)) M') (k1 : ∀ M' L, frRJ r (D 5) M M' → (∀ g i k, ¬ scr g i k → g ≠ 54 → g ≠ 50 → g ≠ 51 → M'.1 g i k = M.1 g i k) → L.length = 1 → fd D L D 0 → M'.1 50 0 r = nI 1 → (∀ k (hk : k < L.length), M'.1 51 0 (40 * r + k) = nI L[k]) → K (some (.inl 1)) M') : ab_Call (d + 6) 236 [vr 49 0, vi (nI 1), vi (nI r)] M K := by
  refine caX10_homeBy rfl (atX10_homeBy ?_)
  have hb := bnd_of hw
  have hcl := cnt_all hw.1
  have m0 := mor_0 hw
  have e5M : M.1 54 0 5 = nI (D 5) := by rw [nw hn (by omega), Dq_5 hq]
  generalize hwd : M.1 54 0 5 = hd at e5M

  have lA : ∀ a, a ≤ cnt D 70 → ∀ sa, sa ≤ 70 → cnt D sa = a → (∀ c, c < sa → adB D c = true → nn D 0 (l5 D c) (c + 1)) → ∀ M3, frH (D 5) M M3 → (∃ E, nwM M3 54 0 E ∧ Dq D 1 E) → ab_At miX10_homeBy (d + 6) 10 [some (vr 49 0), some (vi (nI 1)), some (vi (nI r)), some (vi hd), some (vi (nI a))] [] M3 K := by
    refine up_ind fun a ha ihA sa hsa hca hnoA M3 fH hE => ?_
    refine atX10_homeBy ?_
    have e3 : M3.1 49 0 18 = nI (cnt D 70) := fH.2.1.trans e18
    refine And.intro (fun q => ?_) (fun q => ?_)
    · rw [e3] at q
      have : a = cnt D 70 := by have := nle_use q; omega
      refine k0 M3 fH hE (fun c _ c7 hc => ?_)
      rcases Nat.lt_or_ge c sa with w | w
      · exact hnoA c w hc
      · have y1 := cnt_mono (D := D) w
        have y2 := cnt_mono (D := D) (show c + 1 ≤ 70 by omega)
        rw [cnt_1 hc] at y2
        omega
    · rw [e3] at q
      have haN := nlt_use q
      refine And.intro (fun q => absurd q (by rw [e5M, nI_add]; exact fun w => by have := nlt_use (a := 8) w; omega)) (fun _ => ?_)
      obtain ⟨ca, za1, za2, za3, za4, za5⟩ := cnt_next (D := D) (70 - sa) sa (by omega) (by omega)
      have o62a : ∀ M3, frH (D 5) M M3 → M3.1 62 0 a = nI ca := fun M3 f => by rw [f.2.2, ← hca, ← za4]; exact ho ca za2 za3
      have m1 := mor_l m0 (by omega) (Nat.zero_le _) za2 za3
      have befA : ∀ c', c' < ca → adB D c' = true → nn D 0 (l5 D c') (c' + 1) := fun c' q2 q3 => by
        rcases Nat.lt_or_ge c' sa with w | w
        · exact hnoA c' w q3
        · rw [za5 c' w q2] at q3
          exact absurd q3 (by decide)
      have cntA : cnt D (ca + 1) = a + 1 := by rw [cnt_1 za3]; omega
      have contA : nn D 0 (l5 D ca) (ca + 1) → ∀ M3, frH (D 5) M M3 → (∃ E, nwM M3 54 0 E ∧ Dq D 1 E) → ab_At miX10_homeBy (d + 6) 10 [some (vr 49 0), some (vi (nI 1)), some (vi (nI r)), some (vi hd), some (vi (nI a + nI 1))] [] M3 K := by
        intro hnn M3 fH hE
        have := ihA haN (ca + 1) (by omega) cntA (fun c q2 q3 => by
          by_cases w : c = ca
          · subst w; exact hnn
          · exact befA c (by omega) q3) M3 fH hE
        rw [← nI_1 a] at this
        exact this
      refine And.intro (fun _ => ?_) (fun q => absurd q (by decide))
      have lB1 : nn D 0 (l5 D ca) (ca + 1) → ∀ M3, frH (D 5) M M3 → (∃ E, nwM M3 54 0 E ∧ Dq D 1 E) → ab_At miX10_homeBy (d + 6) 42 [some (vr 49 0), some (vi (nI 1)), some (vi (nI r)), some (vi hd), some (vi (nI a)), some (vi (nI 1))] [] M3 K := by
        intro hnn M3 fH hE
        refine atX10_homeBy ?_
        refine And.intro (fun _ => ?_) (fun q => absurd q (by decide))
        refine And.intro (fun _ => ?_) (fun q => absurd q (by decide))
        exact contA hnn M3 fH hE
      have lC1 : nn D 0 (l5 D ca) (ca + 1) → ∀ M3, frH (D 5) M M3 → (∃ E, nwM M3 54 0 E ∧ Dq D 1 E) → ab_At miX10_homeBy (d + 6) 75 [some (vr 49 0), some (vi (nI 1)), some (vi (nI r)), some (vi hd), some (vi (nI a)), some (vi (nI 0)), some (vi (nI 1))] [] M3 K := by
        intro hnn M3 fH hE
        refine atX10_homeBy ?_
        refine And.intro (fun _ => ?_) (fun q => absurd q (by decide))
        refine And.intro (fun _ => ?_) (fun q => absurd q (by decide))
        exact lB1 hnn M3 fH hE
      have lC : ∀ M3, frH (D 5) M M3 → (∃ E, nwM M3 54 0 E ∧ Dq D 1 E) → ab_At miX10_homeBy (d + 6) 75 [some (vr 49 0), some (vi (nI 1)), some (vi (nI r)), some (vi hd), some (vi (nI a)), some (vi (nI 0)), some (vi (nI 0))] [] M3 K := by
        intro M3 fH hE
        refine atX10_homeBy ?_
        refine And.intro (fun _ => ?_) (fun q => absurd q (by decide))
        refine And.intro (fun q => absurd q (by decide)) (fun _ => ?_)
        obtain ⟨E, nE, qE⟩ := hE
        have e5E : E 5 = D 5 := Dq_5 qE
        have n0 : nwM M3 54 0 E := nE
        have f0 : E 5 = D 5 := e5E
        have n1 : nwM (lyM M3 (E 5) (ca / 10) (ca % 10) 5) 54 0 (l5 E ca) := nwM_ly n0
        have f1 : (l5 E ca) 5 = D 5 + 1 := by show E 5 + 1 = _; omega
        have hEn : (l5 E ca) = (l5 D ca) := Dq_0 (Dq_ly (c := ca) (qE))
        refine ix_i a rfl (show a < 49 by omega) ?_
        refine m_laysFive (M := M3) (E := E) (c := ca) (o62a M3 fH) (by omega) n0 (by rw [f0]; omega) ?_
        refine And.intro (fun _ => ?_) (fun q => absurd q (by decide))
        refine And.intro (fun _ => ?_) (fun q => absurd q (by decide))
        rw [hEn] at n1
        have hE4 : (l5 D ca) 4 = D 4 := m1.2.2.1 4 (by omega) (by omega)
        have aft : ∀ M5, frS 59 61 (lyM M3 (E 5) (ca / 10) (ca % 10) 5) M5 → frH (D 5) M (ab_sI M5 54 0 5 hd) ∧ ∃ E, nwM (ab_sI M5 54 0 5 hd) 54 0 E ∧ Dq D 1 E := by
          intro M5 f5
          refine ⟨⟨frJ_trans fH.1 ⟨fun g i k u1 u2 => ?_, fun g i k _ _ => by show M5.2.1 g i k = _; rw [f5.1]; rfl, fun g i k _ _ => by show M5.2.2 g i k = _; rw [f5.1]; rfl⟩, ?_, fun k => ?_⟩, fun j => if j = 5 then D 5 else (l5 D ca) j, fun j hj => ?_, fun j hj => ?_⟩
          · by_cases w : g = 54 ∧ i = 0
            · obtain ⟨rfl, rfl⟩ := w
              by_cases w : k = 5
              · subst w
                rw [sI_eq, e5M, nw nE (by omega), e5E]
              · rw [sI_k w, f5.2 54 0 (by omega)]
                have u3 : ¬ junk (D 5) k := fun q => u2 ⟨rfl, rfl, q⟩
                rw [lyM_off w u3 (by rw [f0]; omega) (by rw [f0]; omega)]
            · rw [sI_ne (fun q => w ⟨q.1, q.2.1⟩), f5.2 g i (fun q => u1 (by unfold scr; omega)), lyM_o (by omega)]
          · rw [sI_g (by omega), f5.2 49 0 (by omega), lyM_o (by omega)]
            exact fH.2.1
          · rw [sI_g (by omega), f5.2 62 0 (by omega), lyM_o (by omega)]
            exact fH.2.2 k
          · show _ = nI (if j = 5 then D 5 else (l5 D ca) j)
            rw [Nat.zero_add]
            by_cases w : j = 5
            · subst w
              rw [sI_eq, if_pos rfl, e5M]
            · rw [sI_k w, if_neg w, f5.2 54 0 (by omega)]
              exact nw n1 hj
          · show (if j = 5 then D 5 else (l5 D ca) j) = D j
            by_cases w : j = 5
            · rw [if_pos w, w]
            · rw [if_neg w]
              have j0 := hj 0 (by omega)
              rw [show (l5 D ca) j = D j from lyD_o w (by omega) (by omega) (by omega)]
        refine m_areHome (M := (lyM M3 (E 5) (ca / 10) (ca % 10) 5)) (E := (l5 D ca)) n1 m1.1 (by rw [hE4]; exact h4) (fun M5 f5 hhm => ?_) (fun M5 f5 hhm => ?_)
        · obtain ⟨fH6, hE6⟩ := aft M5 f5
          refine ix_i a rfl (show a < 49 by omega) ?_
          refine ix_i 0 rfl (show 0 < 49 by omega) ?_
          refine ix_i 0 rfl (show 0 < 49 by omega) ?_
          refine m_toRow (M := ab_sI M5 54 0 5 hd) hr (by omega) (fun M7 f7 g1 g2 g3 => ?_)
          refine And.intro (fun q => absurd rfl q) (fun _ => ?_)
          refine k1 M7 [ca] (frRJ_trans (frRJ_J fH6.1) (frRJ_R f7)) (fun g i k q1 q2 q3 q4 => ?_) rfl ⟨Nat.zero_le _, za2, za3, fun c' _ q2 q3 => befA c' q2 q3, hhm⟩ g1 (fun k hk => ?_)
          · rw [g3 g i q3 q4]
            exact fH6.1.1 g i k q1 (fun w => q2 w.1)
          · have hk : k < 1 := hk
            rw [g2 k hk]
            have : k = 0 := by omega
            subst this; exact o62a _ fH6
        · obtain ⟨fH6, hE6⟩ := aft M5 f5
          exact lC1 hhm (ab_sI M5 54 0 5 hd) fH6 hE6
      refine atX10_homeBy ?_
      refine And.intro (fun _ => ?_) (fun q => absurd q (by decide))
      refine And.intro (fun q => absurd q (by decide)) (fun _ => ?_)
      refine And.intro (fun _ => ?_) (fun q => absurd q (by decide))
      exact lC M3 fH hE
  rw [← hwd] at lA
  exact lA 0 (Nat.zero_le _) 0 (by omega) rfl (fun c q => by omega) M ⟨frJ_A frA_refl, rfl, fun _ => rfl⟩ ⟨E0, hn, hq⟩
theorem m_homeBy2 {E0 : Nat → Nat} {r : Nat} (hr : r < 6) (hn : nwM M 54 0 E0) (hq : Dq D 2 E0) (hw : wf D) (h4 : 0 < D 4) (h8 : D 5 + 2 ≤ 8) (e18 : M.1 49 0 18 = nI (cnt D 70)) (ho : opn D M 62 70) (k0 : ∀ M', frH (D 5) M M' → (∃ E, nwM M' 54 0 E ∧ Dq D 2 E) → nn D 2 D 0 → K (some (.inl 0)) M') (k1 : ∀ M' L, frRJ r (D 5) M M' → (∀ g i k, ¬ scr g i k → g ≠ 54 → g ≠ 50 → g ≠ 51 → M'.1 g i k = M.1 g i k) → L.length = 2 → fd D L D 0 → M'.1 50 0 r = nI 2 → (∀ k (hk : k < L.length), M'.1 51 0 (40 * r + k) = nI L[k]) → K (some (.inl 1)) M') : ab_Call (d + 6) 236 [vr 49 0, vi (nI 2), vi (nI r)] M K := by
  refine caX10_homeBy rfl (atX10_homeBy ?_)
  have hb := bnd_of hw
  have hcl := cnt_all hw.1
  have m0 := mor_0 hw
  have e5M : M.1 54 0 5 = nI (D 5) := by rw [nw hn (by omega), Dq_5 hq]
  generalize hwd : M.1 54 0 5 = hd at e5M

  have lA : ∀ a, a ≤ cnt D 70 → ∀ sa, sa ≤ 70 → cnt D sa = a → (∀ c, c < sa → adB D c = true → nn D 1 (l5 D c) (c + 1)) → ∀ M3, frH (D 5) M M3 → (∃ E, nwM M3 54 0 E ∧ Dq D 2 E) → ab_At miX10_homeBy (d + 6) 10 [some (vr 49 0), some (vi (nI 2)), some (vi (nI r)), some (vi hd), some (vi (nI a))] [] M3 K := by
    refine up_ind fun a ha ihA sa hsa hca hnoA M3 fH hE => ?_
    refine atX10_homeBy ?_
    have e3 : M3.1 49 0 18 = nI (cnt D 70) := fH.2.1.trans e18
    refine And.intro (fun q => ?_) (fun q => ?_)
    · rw [e3] at q
      have : a = cnt D 70 := by have := nle_use q; omega
      refine k0 M3 fH hE (fun c _ c7 hc => ?_)
      rcases Nat.lt_or_ge c sa with w | w
      · exact hnoA c w hc
      · have y1 := cnt_mono (D := D) w
        have y2 := cnt_mono (D := D) (show c + 1 ≤ 70 by omega)
        rw [cnt_1 hc] at y2
        omega
    · rw [e3] at q
      have haN := nlt_use q
      refine And.intro (fun q => absurd q (by rw [e5M, nI_add]; exact fun w => by have := nlt_use (a := 8) w; omega)) (fun _ => ?_)
      obtain ⟨ca, za1, za2, za3, za4, za5⟩ := cnt_next (D := D) (70 - sa) sa (by omega) (by omega)
      have o62a : ∀ M3, frH (D 5) M M3 → M3.1 62 0 a = nI ca := fun M3 f => by rw [f.2.2, ← hca, ← za4]; exact ho ca za2 za3
      have m1 := mor_l m0 (by omega) (Nat.zero_le _) za2 za3
      have befA : ∀ c', c' < ca → adB D c' = true → nn D 1 (l5 D c') (c' + 1) := fun c' q2 q3 => by
        rcases Nat.lt_or_ge c' sa with w | w
        · exact hnoA c' w q3
        · rw [za5 c' w q2] at q3
          exact absurd q3 (by decide)
      have cntA : cnt D (ca + 1) = a + 1 := by rw [cnt_1 za3]; omega
      have contA : nn D 1 (l5 D ca) (ca + 1) → ∀ M3, frH (D 5) M M3 → (∃ E, nwM M3 54 0 E ∧ Dq D 2 E) → ab_At miX10_homeBy (d + 6) 10 [some (vr 49 0), some (vi (nI 2)), some (vi (nI r)), some (vi hd), some (vi (nI a + nI 1))] [] M3 K := by
        intro hnn M3 fH hE
        have := ihA haN (ca + 1) (by omega) cntA (fun c q2 q3 => by
          by_cases w : c = ca
          · subst w; exact hnn
          · exact befA c (by omega) q3) M3 fH hE
        rw [← nI_1 a] at this
        exact this
      have lB : ∀ b, b ≤ cnt D 70 → ∀ sb, ca + 1 ≤ sb → sb ≤ 70 → cnt D sb = b → (∀ c, ca + 1 ≤ c → c < sb → adB D c = true → nn D 0 (l5 (l5 D ca) c) (c + 1)) → ∀ M3, frH (D 5) M M3 → (∃ E, nwM M3 54 0 E ∧ Dq D 2 E) → ab_At miX10_homeBy (d + 6) 42 [some (vr 49 0), some (vi (nI 2)), some (vi (nI r)), some (vi hd), some (vi (nI a)), some (vi (nI b))] [] M3 K := by
        refine up_ind fun b hbN ihB sb hsb0 hsb hcb hnoB M3 fH hE => ?_
        refine atX10_homeBy ?_
        have e3 : M3.1 49 0 18 = nI (cnt D 70) := fH.2.1.trans e18
        refine And.intro (fun q => absurd q (by decide)) (fun _ => ?_)
        refine And.intro (fun q => ?_) (fun q => ?_)
        · rw [e3] at q
          have : b = cnt D 70 := by have := nle_use q; omega
          refine contA (fun c c0 c7 hc => ?_) M3 fH hE
          rcases Nat.lt_or_ge c sb with w | w
          · exact hnoB c c0 w hc
          · have y1 := cnt_mono (D := D) w
            have y2 := cnt_mono (D := D) (show c + 1 ≤ 70 by omega)
            rw [cnt_1 hc] at y2
            omega
        · rw [e3] at q
          have hbNN := nlt_use q
          obtain ⟨cb, zb1, zb2, zb3, zb4, zb5⟩ := cnt_next (D := D) (70 - sb) sb (by omega) (by omega)
          have o62b : ∀ M3, frH (D 5) M M3 → M3.1 62 0 b = nI cb := fun M3 f => by rw [f.2.2, ← hcb, ← zb4]; exact ho cb zb2 zb3
          have m2 := mor_l m1 (by omega) (show ca + 1 ≤ cb by omega) zb2 zb3
          have befB : ∀ c', ca + 1 ≤ c' → c' < cb → adB D c' = true → nn D 0 (l5 (l5 D ca) c') (c' + 1) := fun c' q1 q2 q3 => by
            rcases Nat.lt_or_ge c' sb with w | w
            · exact hnoB c' q1 w q3
            · rw [zb5 c' w q2] at q3
              exact absurd q3 (by decide)
          have cntB : cnt D (cb + 1) = b + 1 := by rw [cnt_1 zb3]; omega
          have contB : nn D 0 (l5 (l5 D ca) cb) (cb + 1) → ∀ M3, frH (D 5) M M3 → (∃ E, nwM M3 54 0 E ∧ Dq D 2 E) → ab_At miX10_homeBy (d + 6) 42 [some (vr 49 0), some (vi (nI 2)), some (vi (nI r)), some (vi hd), some (vi (nI a)), some (vi (nI b + nI 1))] [] M3 K := by
            intro hnn M3 fH hE
            have := ihB hbNN (cb + 1) (by omega) (by omega) cntB (fun c q1 q2 q3 => by
              by_cases w : c = cb
              · subst w; exact hnn
              · exact befB c q1 (by omega) q3) M3 fH hE
            rw [← nI_1 b] at this
            exact this
          have lC1 : nn D 0 (l5 (l5 D ca) cb) (cb + 1) → ∀ M3, frH (D 5) M M3 → (∃ E, nwM M3 54 0 E ∧ Dq D 2 E) → ab_At miX10_homeBy (d + 6) 75 [some (vr 49 0), some (vi (nI 2)), some (vi (nI r)), some (vi hd), some (vi (nI a)), some (vi (nI b)), some (vi (nI 1))] [] M3 K := by
            intro hnn M3 fH hE
            refine atX10_homeBy ?_
            refine And.intro (fun _ => ?_) (fun q => absurd q (by decide))
            refine And.intro (fun _ => ?_) (fun q => absurd q (by decide))
            exact contB hnn M3 fH hE
          have lC : ∀ M3, frH (D 5) M M3 → (∃ E, nwM M3 54 0 E ∧ Dq D 2 E) → ab_At miX10_homeBy (d + 6) 75 [some (vr 49 0), some (vi (nI 2)), some (vi (nI r)), some (vi hd), some (vi (nI a)), some (vi (nI b)), some (vi (nI 0))] [] M3 K := by
            intro M3 fH hE
            refine atX10_homeBy ?_
            refine And.intro (fun _ => ?_) (fun q => absurd q (by decide))
            refine And.intro (fun q => absurd q (by decide)) (fun _ => ?_)
            obtain ⟨E, nE, qE⟩ := hE
            have e5E : E 5 = D 5 := Dq_5 qE
            have n0 : nwM M3 54 0 E := nE
            have f0 : E 5 = D 5 := e5E
            have n1 : nwM (lyM M3 (E 5) (ca / 10) (ca % 10) 5) 54 0 (l5 E ca) := nwM_ly n0
            have f1 : (l5 E ca) 5 = D 5 + 1 := by show E 5 + 1 = _; omega
            have n2 : nwM (lyM (lyM M3 (E 5) (ca / 10) (ca % 10) 5) ((l5 E ca) 5) (cb / 10) (cb % 10) 5) 54 0 (l5 (l5 E ca) cb) := nwM_ly n1
            have f2 : (l5 (l5 E ca) cb) 5 = D 5 + 2 := by show (l5 E ca) 5 + 1 = _; omega
            have hEn : (l5 (l5 E ca) cb) = (l5 (l5 D ca) cb) := Dq_0 (Dq_ly (c := cb) (Dq_ly (c := ca) (qE)))
            refine ix_i a rfl (show a < 49 by omega) ?_
            refine m_laysFive (M := M3) (E := E) (c := ca) (o62a M3 fH) (by omega) n0 (by rw [f0]; omega) ?_
            refine And.intro (fun q => absurd q (by decide)) (fun _ => ?_)
            refine ix_i b rfl (show b < 49 by omega) ?_
            refine m_laysFive (M := (lyM M3 (E 5) (ca / 10) (ca % 10) 5)) (E := (l5 E ca)) (c := cb) (o62b M3 fH) (by omega) n1 (by rw [f1]; omega) ?_
            refine And.intro (fun _ => ?_) (fun q => absurd q (by decide))
            rw [hEn] at n2
            have hE4 : (l5 (l5 D ca) cb) 4 = D 4 := m2.2.2.1 4 (by omega) (by omega)
            have aft : ∀ M5, frS 59 61 (lyM (lyM M3 (E 5) (ca / 10) (ca % 10) 5) ((l5 E ca) 5) (cb / 10) (cb % 10) 5) M5 → frH (D 5) M (ab_sI M5 54 0 5 hd) ∧ ∃ E, nwM (ab_sI M5 54 0 5 hd) 54 0 E ∧ Dq D 2 E := by
              intro M5 f5
              refine ⟨⟨frJ_trans fH.1 ⟨fun g i k u1 u2 => ?_, fun g i k _ _ => by show M5.2.1 g i k = _; rw [f5.1]; rfl, fun g i k _ _ => by show M5.2.2 g i k = _; rw [f5.1]; rfl⟩, ?_, fun k => ?_⟩, fun j => if j = 5 then D 5 else (l5 (l5 D ca) cb) j, fun j hj => ?_, fun j hj => ?_⟩
              · by_cases w : g = 54 ∧ i = 0
                · obtain ⟨rfl, rfl⟩ := w
                  by_cases w : k = 5
                  · subst w
                    rw [sI_eq, e5M, nw nE (by omega), e5E]
                  · rw [sI_k w, f5.2 54 0 (by omega)]
                    have u3 : ¬ junk (D 5) k := fun q => u2 ⟨rfl, rfl, q⟩
                    rw [lyM_off w u3 (by rw [f1]; omega) (by rw [f1]; omega), lyM_off w u3 (by rw [f0]; omega) (by rw [f0]; omega)]
                · rw [sI_ne (fun q => w ⟨q.1, q.2.1⟩), f5.2 g i (fun q => u1 (by unfold scr; omega)), lyM_o (by omega), lyM_o (by omega)]
              · rw [sI_g (by omega), f5.2 49 0 (by omega), lyM_o (by omega), lyM_o (by omega)]
                exact fH.2.1
              · rw [sI_g (by omega), f5.2 62 0 (by omega), lyM_o (by omega), lyM_o (by omega)]
                exact fH.2.2 k
              · show _ = nI (if j = 5 then D 5 else (l5 (l5 D ca) cb) j)
                rw [Nat.zero_add]
                by_cases w : j = 5
                · subst w
                  rw [sI_eq, if_pos rfl, e5M]
                · rw [sI_k w, if_neg w, f5.2 54 0 (by omega)]
                  exact nw n2 hj
              · show (if j = 5 then D 5 else (l5 (l5 D ca) cb) j) = D j
                by_cases w : j = 5
                · rw [if_pos w, w]
                · rw [if_neg w]
                  have j0 := hj 0 (by omega)
                  have j1 := hj 1 (by omega)
                  have d1 : (l5 D ca) 5 = D 5 + 1 := m1.2.1
                  rw [show (l5 (l5 D ca) cb) j = (l5 D ca) j from lyD_o w (by omega) (by omega) (by omega), show (l5 D ca) j = D j from lyD_o w (by omega) (by omega) (by omega)]
            refine m_areHome (M := (lyM (lyM M3 (E 5) (ca / 10) (ca % 10) 5) ((l5 E ca) 5) (cb / 10) (cb % 10) 5)) (E := (l5 (l5 D ca) cb)) n2 m2.1 (by rw [hE4]; exact h4) (fun M5 f5 hhm => ?_) (fun M5 f5 hhm => ?_)
            · obtain ⟨fH6, hE6⟩ := aft M5 f5
              refine ix_i a rfl (show a < 49 by omega) ?_
              refine ix_i b rfl (show b < 49 by omega) ?_
              refine ix_i 0 rfl (show 0 < 49 by omega) ?_
              refine m_toRow (M := ab_sI M5 54 0 5 hd) hr (by omega) (fun M7 f7 g1 g2 g3 => ?_)
              refine And.intro (fun q => absurd rfl q) (fun _ => ?_)
              refine k1 M7 [ca, cb] (frRJ_trans (frRJ_J fH6.1) (frRJ_R f7)) (fun g i k q1 q2 q3 q4 => ?_) rfl ⟨Nat.zero_le _, za2, za3, fun c' _ q2 q3 => befA c' q2 q3, ⟨by omega, zb2, zb3, befB, hhm⟩⟩ g1 (fun k hk => ?_)
              · rw [g3 g i q3 q4]
                exact fH6.1.1 g i k q1 (fun w => q2 w.1)
              · have hk : k < 2 := hk
                rw [g2 k hk]
                by_cases w0 : k = 0
                · subst w0; exact o62a _ fH6
                have : k = 1 := by omega
                subst this; exact o62b _ fH6
            · obtain ⟨fH6, hE6⟩ := aft M5 f5
              exact lC1 hhm (ab_sI M5 54 0 5 hd) fH6 hE6
          refine And.intro (fun _ => ?_) (fun q => absurd q (by decide))
          exact lC M3 fH hE
      refine And.intro (fun q => absurd q (by decide)) (fun _ => ?_)
      have := lB (a + 1) (by have := cnt_mono (D := D) (show ca + 1 ≤ 70 by omega); omega) (ca + 1) (Nat.le_refl _) (by omega) cntA (fun c q1 q2 => by omega) M3 fH hE
      rw [← nI_1 a] at this
      exact this
  rw [← hwd] at lA
  exact lA 0 (Nat.zero_le _) 0 (by omega) rfl (fun c q => by omega) M ⟨frJ_A frA_refl, rfl, fun _ => rfl⟩ ⟨E0, hn, hq⟩
theorem m_homeBy3 {E0 : Nat → Nat} {r : Nat} (hr : r < 6) (hn : nwM M 54 0 E0) (hq : Dq D 3 E0) (hw : wf D) (h4 : 0 < D 4) (h8 : D 5 + 3 ≤ 8) (e18 : M.1 49 0 18 = nI (cnt D 70)) (ho : opn D M 62 70) (k0 : ∀ M', frH (D 5) M M' → (∃ E, nwM M' 54 0 E ∧ Dq D 3 E) → nn D 3 D 0 → K (some (.inl 0)) M') (k1 : ∀ M' L, frRJ r (D 5) M M' → (∀ g i k, ¬ scr g i k → g ≠ 54 → g ≠ 50 → g ≠ 51 → M'.1 g i k = M.1 g i k) → L.length = 3 → fd D L D 0 → M'.1 50 0 r = nI 3 → (∀ k (hk : k < L.length), M'.1 51 0 (40 * r + k) = nI L[k]) → K (some (.inl 1)) M') : ab_Call (d + 6) 236 [vr 49 0, vi (nI 3), vi (nI r)] M K := by
  refine caX10_homeBy rfl (atX10_homeBy ?_)
  have hb := bnd_of hw
  have hcl := cnt_all hw.1
  have m0 := mor_0 hw
  have e5M : M.1 54 0 5 = nI (D 5) := by rw [nw hn (by omega), Dq_5 hq]
  generalize hwd : M.1 54 0 5 = hd at e5M

  have lA : ∀ a, a ≤ cnt D 70 → ∀ sa, sa ≤ 70 → cnt D sa = a → (∀ c, c < sa → adB D c = true → nn D 2 (l5 D c) (c + 1)) → ∀ M3, frH (D 5) M M3 → (∃ E, nwM M3 54 0 E ∧ Dq D 3 E) → ab_At miX10_homeBy (d + 6) 10 [some (vr 49 0), some (vi (nI 3)), some (vi (nI r)), some (vi hd), some (vi (nI a))] [] M3 K := by
    refine up_ind fun a ha ihA sa hsa hca hnoA M3 fH hE => ?_
    refine atX10_homeBy ?_
    have e3 : M3.1 49 0 18 = nI (cnt D 70) := fH.2.1.trans e18
    refine And.intro (fun q => ?_) (fun q => ?_)
    · rw [e3] at q
      have : a = cnt D 70 := by have := nle_use q; omega
      refine k0 M3 fH hE (fun c _ c7 hc => ?_)
      rcases Nat.lt_or_ge c sa with w | w
      · exact hnoA c w hc
      · have y1 := cnt_mono (D := D) w
        have y2 := cnt_mono (D := D) (show c + 1 ≤ 70 by omega)
        rw [cnt_1 hc] at y2
        omega
    · rw [e3] at q
      have haN := nlt_use q
      refine And.intro (fun q => absurd q (by rw [e5M, nI_add]; exact fun w => by have := nlt_use (a := 8) w; omega)) (fun _ => ?_)
      obtain ⟨ca, za1, za2, za3, za4, za5⟩ := cnt_next (D := D) (70 - sa) sa (by omega) (by omega)
      have o62a : ∀ M3, frH (D 5) M M3 → M3.1 62 0 a = nI ca := fun M3 f => by rw [f.2.2, ← hca, ← za4]; exact ho ca za2 za3
      have m1 := mor_l m0 (by omega) (Nat.zero_le _) za2 za3
      have befA : ∀ c', c' < ca → adB D c' = true → nn D 2 (l5 D c') (c' + 1) := fun c' q2 q3 => by
        rcases Nat.lt_or_ge c' sa with w | w
        · exact hnoA c' w q3
        · rw [za5 c' w q2] at q3
          exact absurd q3 (by decide)
      have cntA : cnt D (ca + 1) = a + 1 := by rw [cnt_1 za3]; omega
      have contA : nn D 2 (l5 D ca) (ca + 1) → ∀ M3, frH (D 5) M M3 → (∃ E, nwM M3 54 0 E ∧ Dq D 3 E) → ab_At miX10_homeBy (d + 6) 10 [some (vr 49 0), some (vi (nI 3)), some (vi (nI r)), some (vi hd), some (vi (nI a + nI 1))] [] M3 K := by
        intro hnn M3 fH hE
        have := ihA haN (ca + 1) (by omega) cntA (fun c q2 q3 => by
          by_cases w : c = ca
          · subst w; exact hnn
          · exact befA c (by omega) q3) M3 fH hE
        rw [← nI_1 a] at this
        exact this
      have lB : ∀ b, b ≤ cnt D 70 → ∀ sb, ca + 1 ≤ sb → sb ≤ 70 → cnt D sb = b → (∀ c, ca + 1 ≤ c → c < sb → adB D c = true → nn D 1 (l5 (l5 D ca) c) (c + 1)) → ∀ M3, frH (D 5) M M3 → (∃ E, nwM M3 54 0 E ∧ Dq D 3 E) → ab_At miX10_homeBy (d + 6) 42 [some (vr 49 0), some (vi (nI 3)), some (vi (nI r)), some (vi hd), some (vi (nI a)), some (vi (nI b))] [] M3 K := by
        refine up_ind fun b hbN ihB sb hsb0 hsb hcb hnoB M3 fH hE => ?_
        refine atX10_homeBy ?_
        have e3 : M3.1 49 0 18 = nI (cnt D 70) := fH.2.1.trans e18
        refine And.intro (fun q => absurd q (by decide)) (fun _ => ?_)
        refine And.intro (fun q => ?_) (fun q => ?_)
        · rw [e3] at q
          have : b = cnt D 70 := by have := nle_use q; omega
          refine contA (fun c c0 c7 hc => ?_) M3 fH hE
          rcases Nat.lt_or_ge c sb with w | w
          · exact hnoB c c0 w hc
          · have y1 := cnt_mono (D := D) w
            have y2 := cnt_mono (D := D) (show c + 1 ≤ 70 by omega)
            rw [cnt_1 hc] at y2
            omega
        · rw [e3] at q
          have hbNN := nlt_use q
          obtain ⟨cb, zb1, zb2, zb3, zb4, zb5⟩ := cnt_next (D := D) (70 - sb) sb (by omega) (by omega)
          have o62b : ∀ M3, frH (D 5) M M3 → M3.1 62 0 b = nI cb := fun M3 f => by rw [f.2.2, ← hcb, ← zb4]; exact ho cb zb2 zb3
          have m2 := mor_l m1 (by omega) (show ca + 1 ≤ cb by omega) zb2 zb3
          have befB : ∀ c', ca + 1 ≤ c' → c' < cb → adB D c' = true → nn D 1 (l5 (l5 D ca) c') (c' + 1) := fun c' q1 q2 q3 => by
            rcases Nat.lt_or_ge c' sb with w | w
            · exact hnoB c' q1 w q3
            · rw [zb5 c' w q2] at q3
              exact absurd q3 (by decide)
          have cntB : cnt D (cb + 1) = b + 1 := by rw [cnt_1 zb3]; omega
          have contB : nn D 1 (l5 (l5 D ca) cb) (cb + 1) → ∀ M3, frH (D 5) M M3 → (∃ E, nwM M3 54 0 E ∧ Dq D 3 E) → ab_At miX10_homeBy (d + 6) 42 [some (vr 49 0), some (vi (nI 3)), some (vi (nI r)), some (vi hd), some (vi (nI a)), some (vi (nI b + nI 1))] [] M3 K := by
            intro hnn M3 fH hE
            have := ihB hbNN (cb + 1) (by omega) (by omega) cntB (fun c q1 q2 q3 => by
              by_cases w : c = cb
              · subst w; exact hnn
              · exact befB c q1 (by omega) q3) M3 fH hE
            rw [← nI_1 b] at this
            exact this
          have lC : ∀ c, c ≤ cnt D 70 → ∀ sc, cb + 1 ≤ sc → sc ≤ 70 → cnt D sc = c → (∀ c, cb + 1 ≤ c → c < sc → adB D c = true → nn D 0 (l5 (l5 (l5 D ca) cb) c) (c + 1)) → ∀ M3, frH (D 5) M M3 → (∃ E, nwM M3 54 0 E ∧ Dq D 3 E) → ab_At miX10_homeBy (d + 6) 75 [some (vr 49 0), some (vi (nI 3)), some (vi (nI r)), some (vi hd), some (vi (nI a)), some (vi (nI b)), some (vi (nI c))] [] M3 K := by
            refine up_ind fun c hcN ihC sc hsc0 hsc hcc hnoC M3 fH hE => ?_
            refine atX10_homeBy ?_
            have e3 : M3.1 49 0 18 = nI (cnt D 70) := fH.2.1.trans e18
            refine And.intro (fun q => absurd q (by decide)) (fun _ => ?_)
            refine And.intro (fun q => ?_) (fun q => ?_)
            · rw [e3] at q
              have : c = cnt D 70 := by have := nle_use q; omega
              refine contB (fun c c0 c7 hc => ?_) M3 fH hE
              rcases Nat.lt_or_ge c sc with w | w
              · exact hnoC c c0 w hc
              · have y1 := cnt_mono (D := D) w
                have y2 := cnt_mono (D := D) (show c + 1 ≤ 70 by omega)
                rw [cnt_1 hc] at y2
                omega
            · rw [e3] at q
              have hcNN := nlt_use q
              obtain ⟨cc, zc1, zc2, zc3, zc4, zc5⟩ := cnt_next (D := D) (70 - sc) sc (by omega) (by omega)
              have o62c : ∀ M3, frH (D 5) M M3 → M3.1 62 0 c = nI cc := fun M3 f => by rw [f.2.2, ← hcc, ← zc4]; exact ho cc zc2 zc3
              have m3 := mor_l m2 (by omega) (show cb + 1 ≤ cc by omega) zc2 zc3
              have befC : ∀ c', cb + 1 ≤ c' → c' < cc → adB D c' = true → nn D 0 (l5 (l5 (l5 D ca) cb) c') (c' + 1) := fun c' q1 q2 q3 => by
                rcases Nat.lt_or_ge c' sc with w | w
                · exact hnoC c' q1 w q3
                · rw [zc5 c' w q2] at q3
                  exact absurd q3 (by decide)
              have cntC : cnt D (cc + 1) = c + 1 := by rw [cnt_1 zc3]; omega
              obtain ⟨E, nE, qE⟩ := hE
              have e5E : E 5 = D 5 := Dq_5 qE
              have n0 : nwM M3 54 0 E := nE
              have f0 : E 5 = D 5 := e5E
              have n1 : nwM (lyM M3 (E 5) (ca / 10) (ca % 10) 5) 54 0 (l5 E ca) := nwM_ly n0
              have f1 : (l5 E ca) 5 = D 5 + 1 := by show E 5 + 1 = _; omega
              have n2 : nwM (lyM (lyM M3 (E 5) (ca / 10) (ca % 10) 5) ((l5 E ca) 5) (cb / 10) (cb % 10) 5) 54 0 (l5 (l5 E ca) cb) := nwM_ly n1
              have f2 : (l5 (l5 E ca) cb) 5 = D 5 + 2 := by show (l5 E ca) 5 + 1 = _; omega
              have n3 : nwM (lyM (lyM (lyM M3 (E 5) (ca / 10) (ca % 10) 5) ((l5 E ca) 5) (cb / 10) (cb % 10) 5) ((l5 (l5 E ca) cb) 5) (cc / 10) (cc % 10) 5) 54 0 (l5 (l5 (l5 E ca) cb) cc) := nwM_ly n2
              have f3 : (l5 (l5 (l5 E ca) cb) cc) 5 = D 5 + 3 := by show (l5 (l5 E ca) cb) 5 + 1 = _; omega
              have hEn : (l5 (l5 (l5 E ca) cb) cc) = (l5 (l5 (l5 D ca) cb) cc) := Dq_0 (Dq_ly (c := cc) (Dq_ly (c := cb) (Dq_ly (c := ca) (qE))))
              refine ix_i a rfl (show a < 49 by omega) ?_
              refine m_laysFive (M := M3) (E := E) (c := ca) (o62a M3 fH) (by omega) n0 (by rw [f0]; omega) ?_
              refine And.intro (fun q => absurd q (by decide)) (fun _ => ?_)
              refine ix_i b rfl (show b < 49 by omega) ?_
              refine m_laysFive (M := (lyM M3 (E 5) (ca / 10) (ca % 10) 5)) (E := (l5 E ca)) (c := cb) (o62b M3 fH) (by omega) n1 (by rw [f1]; omega) ?_
              refine And.intro (fun q => absurd q (by decide)) (fun _ => ?_)
              refine ix_i c rfl (show c < 49 by omega) ?_
              refine m_laysFive (M := (lyM (lyM M3 (E 5) (ca / 10) (ca % 10) 5) ((l5 E ca) 5) (cb / 10) (cb % 10) 5)) (E := (l5 (l5 E ca) cb)) (c := cc) (o62c M3 fH) (by omega) n2 (by rw [f2]; omega) ?_
              rw [hEn] at n3
              have hE4 : (l5 (l5 (l5 D ca) cb) cc) 4 = D 4 := m3.2.2.1 4 (by omega) (by omega)
              have aft : ∀ M5, frS 59 61 (lyM (lyM (lyM M3 (E 5) (ca / 10) (ca % 10) 5) ((l5 E ca) 5) (cb / 10) (cb % 10) 5) ((l5 (l5 E ca) cb) 5) (cc / 10) (cc % 10) 5) M5 → frH (D 5) M (ab_sI M5 54 0 5 hd) ∧ ∃ E, nwM (ab_sI M5 54 0 5 hd) 54 0 E ∧ Dq D 3 E := by
                intro M5 f5
                refine ⟨⟨frJ_trans fH.1 ⟨fun g i k u1 u2 => ?_, fun g i k _ _ => by show M5.2.1 g i k = _; rw [f5.1]; rfl, fun g i k _ _ => by show M5.2.2 g i k = _; rw [f5.1]; rfl⟩, ?_, fun k => ?_⟩, fun j => if j = 5 then D 5 else (l5 (l5 (l5 D ca) cb) cc) j, fun j hj => ?_, fun j hj => ?_⟩
                · by_cases w : g = 54 ∧ i = 0
                  · obtain ⟨rfl, rfl⟩ := w
                    by_cases w : k = 5
                    · subst w
                      rw [sI_eq, e5M, nw nE (by omega), e5E]
                    · rw [sI_k w, f5.2 54 0 (by omega)]
                      have u3 : ¬ junk (D 5) k := fun q => u2 ⟨rfl, rfl, q⟩
                      rw [lyM_off w u3 (by rw [f2]; omega) (by rw [f2]; omega), lyM_off w u3 (by rw [f1]; omega) (by rw [f1]; omega), lyM_off w u3 (by rw [f0]; omega) (by rw [f0]; omega)]
                  · rw [sI_ne (fun q => w ⟨q.1, q.2.1⟩), f5.2 g i (fun q => u1 (by unfold scr; omega)), lyM_o (by omega), lyM_o (by omega), lyM_o (by omega)]
                · rw [sI_g (by omega), f5.2 49 0 (by omega), lyM_o (by omega), lyM_o (by omega), lyM_o (by omega)]
                  exact fH.2.1
                · rw [sI_g (by omega), f5.2 62 0 (by omega), lyM_o (by omega), lyM_o (by omega), lyM_o (by omega)]
                  exact fH.2.2 k
                · show _ = nI (if j = 5 then D 5 else (l5 (l5 (l5 D ca) cb) cc) j)
                  rw [Nat.zero_add]
                  by_cases w : j = 5
                  · subst w
                    rw [sI_eq, if_pos rfl, e5M]
                  · rw [sI_k w, if_neg w, f5.2 54 0 (by omega)]
                    exact nw n3 hj
                · show (if j = 5 then D 5 else (l5 (l5 (l5 D ca) cb) cc) j) = D j
                  by_cases w : j = 5
                  · rw [if_pos w, w]
                  · rw [if_neg w]
                    have j0 := hj 0 (by omega)
                    have j1 := hj 1 (by omega)
                    have j2 := hj 2 (by omega)
                    have d1 : (l5 D ca) 5 = D 5 + 1 := m1.2.1
                    have d2 : (l5 (l5 D ca) cb) 5 = D 5 + 2 := m2.2.1
                    rw [show (l5 (l5 (l5 D ca) cb) cc) j = (l5 (l5 D ca) cb) j from lyD_o w (by omega) (by omega) (by omega), show (l5 (l5 D ca) cb) j = (l5 D ca) j from lyD_o w (by omega) (by omega) (by omega), show (l5 D ca) j = D j from lyD_o w (by omega) (by omega) (by omega)]
              refine m_areHome (M := (lyM (lyM (lyM M3 (E 5) (ca / 10) (ca % 10) 5) ((l5 E ca) 5) (cb / 10) (cb % 10) 5) ((l5 (l5 E ca) cb) 5) (cc / 10) (cc % 10) 5)) (E := (l5 (l5 (l5 D ca) cb) cc)) n3 m3.1 (by rw [hE4]; exact h4) (fun M5 f5 hhm => ?_) (fun M5 f5 hhm => ?_)
              · obtain ⟨fH6, hE6⟩ := aft M5 f5
                refine ix_i a rfl (show a < 49 by omega) ?_
                refine ix_i b rfl (show b < 49 by omega) ?_
                refine ix_i c rfl (show c < 49 by omega) ?_
                refine m_toRow (M := ab_sI M5 54 0 5 hd) hr (by omega) (fun M7 f7 g1 g2 g3 => ?_)
                refine And.intro (fun q => absurd rfl q) (fun _ => ?_)
                refine k1 M7 [ca, cb, cc] (frRJ_trans (frRJ_J fH6.1) (frRJ_R f7)) (fun g i k q1 q2 q3 q4 => ?_) rfl ⟨Nat.zero_le _, za2, za3, fun c' _ q2 q3 => befA c' q2 q3, ⟨by omega, zb2, zb3, befB, ⟨by omega, zc2, zc3, befC, hhm⟩⟩⟩ g1 (fun k hk => ?_)
                · rw [g3 g i q3 q4]
                  exact fH6.1.1 g i k q1 (fun w => q2 w.1)
                · have hk : k < 3 := hk
                  rw [g2 k hk]
                  by_cases w0 : k = 0
                  · subst w0; exact o62a _ fH6
                  by_cases w1 : k = 1
                  · subst w1; exact o62b _ fH6
                  have : k = 2 := by omega
                  subst this; exact o62c _ fH6
              · obtain ⟨fH6, hE6⟩ := aft M5 f5
                have := ihC hcNN (cc + 1) (by omega) (by omega) cntC (fun c q1 q2 q3 => by
                  by_cases w : c = cc
                  · subst w; exact hhm
                  · exact befC c q1 (by omega) q3) (ab_sI M5 54 0 5 hd) fH6 hE6
                rw [← nI_1 c] at this
                exact this
          refine And.intro (fun q => absurd q (by decide)) (fun _ => ?_)
          have := lC (b + 1) (by have := cnt_mono (D := D) (show cb + 1 ≤ 70 by omega); omega) (cb + 1) (Nat.le_refl _) (by omega) cntB (fun c q1 q2 => by omega) M3 fH hE
          rw [← nI_1 b] at this
          exact this
      refine And.intro (fun q => absurd q (by decide)) (fun _ => ?_)
      have := lB (a + 1) (by have := cnt_mono (D := D) (show ca + 1 ≤ 70 by omega); omega) (ca + 1) (Nat.le_refl _) (by omega) cntA (fun c q1 q2 => by omega) M3 fH hE
      rw [← nI_1 a] at this
      exact this
  rw [← hwd] at lA
  exact lA 0 (Nat.zero_le _) 0 (by omega) rfl (fun c q => by omega) M ⟨frJ_A frA_refl, rfl, fun _ => rfl⟩ ⟨E0, hn, hq⟩
end HomeBy
