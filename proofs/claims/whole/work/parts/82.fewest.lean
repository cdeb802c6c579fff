/-! ===== fewest: the step ===== -/
theorem fd_no {D : Nat → Nat} : ∀ {L : List Nat} {E : Nat → Nat} {s : Nat}, fd D L E s → ¬ nn D L.length E s
  | [], _, _, h => fun w => w h
  | c :: L, E, s, ⟨h1, h2, h3, _, h5⟩ => fun w => fd_no h5 (w c h1 h2 h3)
theorem fd_u {D : Nat → Nat} : ∀ {L L' : List Nat} {E : Nat → Nat} {s : Nat}, fd D L E s → fd D L' E s → L.length = L'.length → L = L'
  | [], [], _, _, _, _, _ => rfl
  | [], _ :: _, _, _, _, _, h => absurd h (by simp)
  | _ :: _, [], _, _, _, _, h => absurd h (by simp)
  | c :: L, c' :: L', E, s, ⟨h1, h2, h3, h4, h5⟩, ⟨g1, g2, g3, g4, g5⟩, h => by
    have hl : L.length = L'.length := by simpa using h
    rcases Nat.lt_trichotomy c c' with w | w | w
    · have := g4 c h1 w h3
      rw [← hl] at this
      exact absurd this (fd_no h5)
    · subst w
      rw [fd_u h5 g5 hl]
    · have := h4 c' g1 w g3
      rw [hl] at this
      exact absurd this (fd_no g5)
section FewestO
variable {d : Nat} {M : ab_M} {K : ab_K} {D : Nat → Nat}
theorem m_homeBy_full {r n N : Nat} {v : Int32} (hv : v = nI n) (e5 : M.1 54 0 5 = nI (D 5)) (h5 : D 5 ≤ 8) (hn : n ≤ 3) (h8 : 8 < D 5 + n) (e18 : M.1 49 0 18 = nI N) (k0 : K (some (.inl 0)) M) : ab_Call d 236 [vr 49 0, vi v, vi (nI r)] M K := by
  subst hv
  refine caX10_homeBy rfl (atX10_homeBy ?_)
  refine atX10_homeBy ?_
  refine And.intro (fun _ => k0) (fun _ => ?_)
  exact And.intro (fun _ => k0) (fun q => absurd (nle_use (a := D 5 + n) (b := 8) (by rw [← nI_add, ← e5]; exact q)) (by omega))
theorem m_homeBy {E0 : Nat → Nat} {r n : Nat} {v : Int32} (hv : v = nI n) (n1 : 1 ≤ n) (n3 : n ≤ 3) (hr : r < 6) (hn : nwM M 54 0 E0) (hq : Dq D n E0) (hw : wf D) (h4 : 0 < D 4) (h8 : D 5 + n ≤ 8) (e18 : M.1 49 0 18 = nI (cnt D 70)) (ho : opn D M 62 70) (k0 : ∀ M', frH (D 5) M M' → (∃ E, nwM M' 54 0 E ∧ Dq D n E) → nn D n D 0 → K (some (.inl 0)) M') (k1 : ∀ M' L, frRJ r (D 5) M M' → (∀ g i k, ¬ scr g i k → g ≠ 54 → g ≠ 50 → g ≠ 51 → M'.1 g i k = M.1 g i k) → L.length = n → fd D L D 0 → M'.1 50 0 r = nI n → (∀ k (hk : k < L.length), M'.1 51 0 (40 * r + k) = nI L[k]) → K (some (.inl 1)) M') : ab_Call (d + 6) 236 [vr 49 0, vi v, vi (nI r)] M K := by
  subst hv
  match n, n1, n3 with
  | 1, _, _ => exact m_homeBy1 hr hn hq hw h4 h8 e18 ho k0 k1
  | 2, _, _ => exact m_homeBy2 hr hn hq hw h4 h8 e18 ho k0 k1
  | 3, _, _ => exact m_homeBy3 hr hn hq hw h4 h8 e18 ho k0 k1
theorem m_fewest {r : Nat} (hn : nwM M 54 0 D) (hw : wf D) (h4 : 0 < D 4) (hr : r < 6) (kn : ∀ M', frJ (D 5) M M' → ¬ hmE D → (∀ n, 1 ≤ n → n ≤ 3 → D 5 + n ≤ 8 → nn D n D 0) → K (some (vi (-9))) M') (kf : ∀ M' L, frRJ r (D 5) M M' → (∀ g i k, ¬ scr g i k → g ≠ 54 → g ≠ 50 → g ≠ 51 → M'.1 g i k = M.1 g i k) → L.length ≤ 3 → D 5 + L.length ≤ 8 → fd D L D 0 → (∀ q, q < L.length → nn D q D 0) → M'.1 50 0 r = nI L.length → (∀ k (hk : k < L.length), M'.1 51 0 (40 * r + k) = nI L[k]) → K (some (vi (nI L.length))) M') : ab_Call (d + 7) 237 [vr 49 0, vi (nI r)] M K := by
  refine ab_Call_nr (caX10_fewest rfl (atX10_fewest ?_))
  have hb := bnd_of hw
  have b5 := hb.2.2.1
  refine m_isRow1 hr ?_
  refine m_hasTrail1 hn h4 hb.2.1 ?_
  refine m_areHome hn hw h4 (fun M1 f1 hh => ?_) (fun M1 f1 hh => ?_)
  · refine M_row hr (by omega) ?_
    have fA : frA M M1 := frA_S f1 (by omega)
    refine kf _ [] (frRJ_R (frR_fl (frR_sI (frR_A fA) (Or.inr (Or.inr (Or.inl ⟨rfl, rfl, rfl⟩)))))) (fun g i k q q1 q2 q3 => ?_) (by decide) (by show D 5 + 0 ≤ 8; omega) hh (fun q hq => absurd hq (by simp)) ?_ (fun k hk => absurd hk (by simp))
    · rw [sR_g q3, sI_g q2]
      exact fA.1 g i k q
    · rw [sR_g (by omega)]
      exact sI_eq
  · have n1 := frS_nw f1 (by omega) hn
    refine m_layLures n1 hw (fun M2 f2 e2 o2 => ?_)
    have fA : frA M M2 := frA_trans (frA_S f1 (by omega)) f2
    have n2 := frA_nw fA (by omega) (by omega) hn
    have key : ∀ n, n ≤ 4 → 1 ≤ n → (∀ q, 1 ≤ q → q < n → D 5 + q ≤ 8 → nn D q D 0) → ∀ M3, frH (D 5) M2 M3 → (∃ E, nwM M3 54 0 E ∧ Dq D (n - 1) E) → ab_At miX10_fewest (d + 7) 39 [some (vr 49 0), some (vi (nI r)), some (vi (nI n))] [] M3 (fun r M => K (r.map ab_nr) M) := by
      refine up_ind fun n hn4 ih n1' hno M3 fH hE => ?_
      refine atX10_fewest ?_
      have fJ : frJ (D 5) M M3 := frJ_trans (frJ_A fA) fH.1
      refine And.intro (fun q => ?_) (fun q => ?_)
      · have : n = 4 := by have := nle_use (a := 4) q; omega
        subst this
        exact kn M3 fJ hh (fun q a b c => hno q a (by omega) c)
      · have hn3 := nlt_use (b := 4) q
        obtain ⟨E, nE, qE⟩ := hE
        have e18 : M3.1 49 0 18 = nI (cnt D 70) := fH.2.1.trans e2
        have o3 : opn D M3 62 70 := opn_fr o2 fH.2.2
        rcases Nat.lt_or_ge 8 (D 5 + n) with w | w
        · refine m_homeBy_full (D := D) rfl (by rw [nw nE (by omega), Dq_5 qE]) b5 (by omega) w e18 ?_
          have := ih (by omega) (by omega) (fun q a b c => hno q a (by omega) c) M3 fH ⟨E, nE, Dq_mono qE (by omega)⟩
          rw [← nI_1 n] at this
          exact this
        · refine m_homeBy (d := d) rfl n1' (by omega) hr nE (Dq_mono qE (by omega)) hw h4 w e18 o3 (fun M4 g1 g2 g3 => ?_) (fun M4 L g1 g2 g3 g4 g5 g6 => ?_)
          · have := ih (by omega) (by omega) (fun q a b c => by
              by_cases e : q = n
              · subst e; exact g3
              · exact hno q a (by omega) c) M4 ⟨frJ_trans fH.1 g1.1, g1.2.1.trans fH.2.1, fun k => (g1.2.2 k).trans (fH.2.2 k)⟩ (by
              obtain ⟨E', a, b⟩ := g2
              exact ⟨E', a, Dq_mono b (by omega)⟩)
            rw [← nI_1 n] at this
            exact this
          · have := kf M4 L (frRJ_trans (frRJ_J fJ) g1) (fun g i k q q1 q2 q3 => by rw [g2 g i k q q1 q2 q3, fJ.1 g i k q (fun w => q1 w.1)]) (by omega) (by omega) g4 (fun q hq => by
              rcases Nat.eq_zero_or_pos q with z | z
              · subst z; exact hh
              · exact hno q z (by omega) (by omega)) (by rw [g3]; exact g5) g6
            rw [g3] at this
            exact this
    exact key 1 (by omega) (by omega) (fun q a b => by omega) M2 ⟨frJ_A frA_refl, rfl, fun _ => rfl⟩ ⟨D, n2, fun _ _ => rfl⟩
theorem op_fewest {x : Int32} (hR : Rel M) : OpI (d + 9) 132 237 [vi x] M := by
  obtain ⟨D, hw, hw2, hw3, hl, hc, hn, hk⟩ := Rel_D hR
  have hb := bnd_of hw
  have b4 := hb.2.1
  have b5 := hb.2.2.1
  rcases ix_cases x (n := 6) (by omega) with ⟨r, hr, rfl⟩ | hx
  · rcases Nat.eq_zero_or_pos (D 4) with h4 | h4
    · refine ab_Call_nr (caX9_fewest rfl (atX9_fewest (c_hasR1 hr (c_isLaid0 hc h4 ?_))))
      refine ab_Call_nr (caX10_fewest rfl (atX10_fewest (m_isRow1 hr (m_hasTrail0 hn h4 ?_))))
      exact ⟨⟨_, rfl, rfl⟩, hR⟩
    · have z0 : D 0 ≠ 0 := by
        have := hw.2.2.1
        omega
      have z7 : D 0 ≤ 7 := hw.1.1
      have h54 : M.1 54 0 5 = nI (D 5) := nw hn (by omega)
      have h00 : ¬ M.1 54 0 0 = nI 0 := by rw [nw hn (by omega), nI_eq (by omega) (by omega)]; exact z0
      refine ab_Call_nr (caX9_fewest rfl (atX9_fewest (c_hasR1 hr (c_isLaid1 hc hb h4 ?_))))
      refine c_fewestEnds (d := d) hl hc hw (fun M1 f1 hno => ?_) (fun M1 L f1 l3 l8 hfd hno h41 => ?_)
      · refine And.intro (fun _ => ?_) (fun q => absurd rfl q)
        have n1 := frA_nw f1 (by omega) (by omega) hn
        refine m_fewest (d := d + 2) n1 hw h4 hr (fun M' f' _ _ => ?_) (fun M' L' f' _ a b c _ _ _ => absurd (hno L'.length a b) (fd_no c))
        exact ⟨⟨_, rfl, rfl⟩, Rel_junk hR (frJ_trans (frJ_A f1) f') h54 b5 h00⟩
      · refine And.intro (fun q => absurd q (n9 (by omega))) (fun _ => ?_)
        refine c_fill41 rfl hr l3 ?_
        generalize hM4 : ab_sC (ab_sI M1 4 0 r (nI L.length)) 41 0 0 3 r 0 L.length = M4
        have f4 : frR r M M4 := by rw [← hM4]; exact frR_sC (frR_sI (frR_A f1) (Or.inl ⟨rfl, rfl, rfl⟩))
        have r4 : M4.1 4 0 r = nI L.length := by rw [← hM4]; simp [ab_sC, ab_sI]
        have r3 : ∀ k (hk : k < L.length), M4.1 3 r k = nI L[k] := by
          intro k hk
          rw [← hM4]
          show (if 3 = 3 ∧ r = r ∧ 0 ≤ k ∧ k < 0 + L.length then (ab_sI M1 4 0 r (nI L.length)).1 41 0 (0 + (k - 0)) else _) = _
          rw [if_pos ⟨rfl, rfl, by omega, by omega⟩, sI_g (by omega), Nat.sub_zero, Nat.zero_add]
          exact h41 k hk
        have t4 : M4.1 0 0 14 = M4.1 49 0 7 := by
          rw [← hM4]
          show M1.1 0 0 14 = M1.1 49 0 7
          rw [f1.1 0 0 14 (by unfold scr; omega), f1.1 49 0 7 (by unfold scr; omega)]
          exact hR.2.2.1.1
        have hn4 := frR_nw f4 hn
        refine m_fewest (d := d + 2) hn4 hw h4 hr (fun M' f' a b => ?_) (fun M' L' f' g' a b c e s50 s51 => ?_)
        · rcases Nat.eq_zero_or_pos L.length with z | z
          · have : L = [] := List.eq_nil_of_length_eq_zero z
            subst this
            exact absurd hfd a
          · exact absurd (b L.length z l3 l8) (fd_no hfd)
        · have hll : L.length = L'.length := by
            rcases Nat.lt_trichotomy L.length L'.length with w | w | w
            · exact absurd (e L.length w) (fd_no hfd)
            · exact w
            · exact absurd (hno L'.length w) (fd_no c)
          have := fd_u hfd c hll
          subst this
          refine ⟨⟨_, rfl, rfl⟩, ?_⟩
          refine Rel_rowsJ hR hr (n := L.length) (e := D 5) (by omega) (frRJ_trans (frRJ_R f4) f') ?_ s50 (fun k hk => ?_) ?_ h54 b5 h00
          · rw [g' 4 0 r (by unfold scr; omega) (by omega) (by omega) (by omega)]; exact r4
          · rw [g' 3 r k (by unfold scr; omega) (by omega) (by omega) (by omega), r3 k hk, s51 k hk]
          · rw [g' 0 0 14 (by unfold scr; omega) (by omega) (by omega) (by omega), g' 49 0 7 (by unfold scr; omega) (by omega) (by omega) (by omega)]; exact t4
  · refine ab_Call_nr (caX9_fewest rfl (atX9_fewest (c_hasR0 hx ?_)))
    refine ab_Call_nr (caX10_fewest rfl (atX10_fewest (m_isRow0 hx ?_)))
    exact ⟨⟨_, rfl, rfl⟩, hR⟩
end FewestO
