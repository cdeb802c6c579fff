/-! ===== the reference: places, hounds, paths ===== -/
section ModelC
variable {d : Nat} {M : ab_M} {K : ab_K} {D : Nat → Nat}
theorem nw {k : Nat} (hn : nwM M 54 0 D) (hk : k < 78) : M.1 54 0 k = nI (D k) := by
  have := hn k hk
  rwa [Nat.zero_add] at this
theorem m_isPlace1 {j : Nat} (hn : nwM M 54 0 D) (hj : j < D 0) (hb : D 0 ≤ 7) (hK : K (some (.inl 1)) M) : ab_Call (d + 1) 186 [vr 49 0, vi (nI j)] M K := by
  refine caX10_isPlace rfl (atX10_isPlace ?_)
  exact c_inP (n := D 0) rfl (by rw [nw hn (by omega)]) hj (by omega) hK
theorem m_isPlace0 {x : Int32} (hn : nwM M 54 0 D) (hb : D 0 ≤ 7) (hx : ∀ j, j < D 0 → x ≠ nI j) (hK : K (some (.inl 0)) M) : ab_Call (d + 1) 186 [vr 49 0, vi x] M K := by
  refine caX10_isPlace rfl (atX10_isPlace ?_)
  exact c_in0 (n := D 0) rfl (by rw [nw hn (by omega)]) (by omega) hx hK
theorem m_isHound1 {j : Nat} (hn : nwM M 54 0 D) (hj : j < D 1) (hb : D 1 ≤ 4) (hK : K (some (.inl 1)) M) : ab_Call (d + 1) 187 [vr 49 0, vi (nI j)] M K := by
  refine caX10_isHound rfl (atX10_isHound ?_)
  exact c_inP (n := D 1) rfl (by rw [nw hn (by omega)]) hj (by omega) hK
theorem m_isHound0 {x : Int32} (hn : nwM M 54 0 D) (hb : D 1 ≤ 4) (hx : ∀ j, j < D 1 → x ≠ nI j) (hK : K (some (.inl 0)) M) : ab_Call (d + 1) 187 [vr 49 0, vi x] M K := by
  refine caX10_isHound rfl (atX10_isHound ?_)
  exact c_in0 (n := D 1) rfl (by rw [nw hn (by omega)]) (by omega) hx hK
theorem m_hasTrail1 (hn : nwM M 54 0 D) (h0 : 0 < D 4) (hb : D 4 ≤ 7) (hK : K (some (.inl 1)) M) : ab_Call d 188 [vr 49 0] M K := by
  refine caX10_hasTrail rfl (atX10_hasTrail ?_)
  exact And.intro (fun h => absurd h (by rw [nw hn (by omega)]; exact nI_nle h0 (by omega))) (fun _ => hK)
theorem m_hasTrail0 (hn : nwM M 54 0 D) (h0 : D 4 = 0) (hK : K (some (.inl 0)) M) : ab_Call d 188 [vr 49 0] M K := by
  refine caX10_hasTrail rfl (atX10_hasTrail ?_)
  exact And.intro (fun _ => hK) (fun h => absurd h (by rw [nw hn (by omega), h0]; exact nI_pos (by omega)))
theorem m_isWindy {p : Nat} (hn : nwM M 54 0 D) (hw : D 77 < 128) (hp : p < 7) (h1 : wb (D 77) p = 1 → K (some (.inl 1)) M) (h0 : wb (D 77) p = 0 → K (some (.inl 0)) M) : ab_Call d 189 [vr 49 0, vi (nI p)] M K := by
  refine caX10_isWindy rfl (atX10_isWindy ?_)
  have e2 : ab_shr (M.1 54 0 77) (nI p) &&& nI 1 = nI (wb (D 77) p) := by rw [nw hn (by omega), nI_bit (by omega) (by omega)]
  refine And.intro (fun q => ?_) (fun q => ?_)
  · rw [e2] at q
    rcases wb_01 (D 77) p with w | w
    · exact h0 w
    · rw [w] at q
      exact absurd rfl q
  · rw [e2] at q
    rcases wb_01 (D 77) p with w | w
    · rw [w] at q
      exact absurd q (by decide)
    · exact h1 w
theorem m_isOf {a b : Nat} (ha : a ≤ 5) (hb : b ≤ 5) (h1 : (a = b ∨ b = 0 ∨ (a = 4 ∧ b = 1) ∨ (a = 5 ∧ b = 2)) → K (some (.inl 1)) M) (h0 : ¬ (a = b ∨ b = 0 ∨ (a = 4 ∧ b = 1) ∨ (a = 5 ∧ b = 2)) → K (some (.inl 0)) M) : ab_Call d 190 [vi (nI a), vi (nI b)] M K := by
  refine caX10_isOf rfl (atX10_isOf ?_)
  refine And.intro (fun q => h1 (by have := neq_use q; omega)) (fun q => ?_)
  have q := nne_use q
  refine And.intro (fun q2 => h1 (by have := neq_use q2; omega)) (fun q2 => ?_)
  have q2 := nne_use q2
  refine And.intro (fun q3 => ?_) (fun q3 => ?_)
  · have q3 := nne_use q3
    refine And.intro (fun q4 => h0 (by have := nne_use q4; omega)) (fun q4 => ?_)
    have q4 := neq_use q4
    exact And.intro (fun q5 => h0 (by have := nne_use q5; omega)) (fun q5 => h1 (by have := neq_use q5; omega))
  · have q3 := neq_use q3
    refine And.intro (fun q4 => h1 (by have := neq_use q4; omega)) (fun q4 => ?_)
    have q4 := nne_use q4
    refine And.intro (fun q5 => h0 (by have := nne_use q5; omega)) (fun q5 => ?_)
    exact absurd (neq_use q5) (by omega)
theorem m_pace {kd m : Nat} (hk : kd ≤ 5) (hm : m ≤ 9) (hK : K (some (vi (nI (pce kd m)))) M) : ab_Call (d + 1) 191 [vi (nI kd), vi (nI m)] M K := by
  refine ab_Call_nr (caX10_pace rfl (atX10_pace ?_))
  refine m_isOf hk (by omega) (fun q => ?_) (fun q => ?_)
  · refine And.intro (fun w => absurd w (by decide)) ?_
    have e : (nI m + nI 1) / nI 2 = nI (pce kd m) := by
      rw [nI_add, pk_div (by omega) (by omega) (by omega)]
      unfold pce
      rw [if_pos (by omega)]
    rw [← e] at hK
    exact hK
  · refine And.intro (fun w => ?_) (fun w => ?_)
    · have w := nne_use w
      refine And.intro (fun w2 => ?_) (fun w2 => ?_)
      · have w2 := nne_use w2
        have e : m = pce kd m := by
          unfold pce
          rw [if_neg (by omega), if_neg (by omega), if_neg (by omega)]
        rw [← e] at hK
        exact hK
      · have w2 := neq_use w2
        have e : nI 2 * nI m + nI 1 = nI (pce kd m) := by
          rw [pk_mul, nI_add]
          unfold pce
          rw [if_neg (by omega), if_neg (by omega), if_pos (by omega)]
        rw [← e] at hK
        exact hK
    · have w := neq_use w
      have e : nI 2 * nI m = nI (pce kd m) := by
        rw [pk_mul]
        unfold pce
        rw [if_neg (by omega), if_pos (by omega)]
      rw [← e] at hK
      exact hK
theorem m_pathOf {X Y : Nat} (hn : nwM M 54 0 D) (hL : wfL D) (hX : X < 7) (hY : Y < 7) (h1 : ∀ k, k < D 2 → pm D X Y = D (34 + k) → 0 < pm D X Y → K (some (vi (nI k))) M) (h0 : pm D X Y = 0 → K (some (vi (-1))) M) : ab_Call d 179 [vr 54 0, vi (nI X), vi (nI Y)] M K := by
  refine ab_Call_nr (caX10_pathOf rfl (atX10_pathOf ?_))
  obtain ⟨w0, w1, w2, w3, w4⟩ := hL
  have key : ∀ j, j ≤ D 2 → ∀ f : Int32, ((f = -1 ∧ pmr D X Y j = 0) ∨ ∃ k, k < j ∧ f = nI k ∧ pmr D X Y j = D (34 + k)) → ab_At miX10_pathOf d 5 [some (vr 54 0), some (vi (nI X)), some (vi (nI Y)), some (vi f), some (vi (nI j))] [] M (fun r M => K (r.map ab_nr) M) := by
    refine up_ind fun j hj ih f hf => ?_
    refine atX10_pathOf ?_
    refine And.intro (fun h => ?_) (fun h => ?_)
    · rw [nw hn (by omega)] at h
      have : j = D 2 := by have := nle_use h; omega
      subst this
      rcases hf with ⟨rfl, hf⟩ | ⟨k, hk, rfl, hf⟩
      · exact h0 hf
      · exact h1 k hk hf (by rw [show pm D X Y = _ from hf]; exact (w4 k hk).2.2.2.1)
    · rw [nw hn (by omega)] at h
      have hjn := nlt_use h
      obtain ⟨p1, p2, p3, p4, p5⟩ := w4 j hjn
      have yes : ((D (10 + j) = X ∧ D (22 + j) = Y) ∨ (D (10 + j) = Y ∧ D (22 + j) = X)) → ab_At miX10_pathOf d 5 [some (vr 54 0), some (vi (nI X)), some (vi (nI Y)), some (vi (nI j)), some (vi (nI j + nI 1))] [] M (fun r M => K (r.map ab_nr) M) := by
        intro q
        have := ih hjn (nI j) (Or.inr ⟨j, by omega, rfl, by rw [pmr, if_pos q]⟩)
        rw [← nI_1] at this
        exact this
      have no : ¬ ((D (10 + j) = X ∧ D (22 + j) = Y) ∨ (D (10 + j) = Y ∧ D (22 + j) = X)) → ab_At miX10_pathOf d 5 [some (vr 54 0), some (vi (nI X)), some (vi (nI Y)), some (vi f), some (vi (nI j + nI 1))] [] M (fun r M => K (r.map ab_nr) M) := by
        intro q
        have := ih hjn f (by
          rw [pmr, if_neg q]
          rcases hf with hf | ⟨k, hk, hf⟩
          · exact Or.inl hf
          · exact Or.inr ⟨k, by omega, hf⟩)
        rw [← nI_1] at this
        exact this
      have e1 : M.1 54 0 (10 + j) = nI (D (10 + j)) := nw hn (by omega)
      have e2 : M.1 54 0 (22 + j) = nI (D (22 + j)) := nw hn (by omega)
      refine ix_i (10 + j) (by simp only [nI_add]) (show 10 + j < 78 by omega) ?_
      refine And.intro (fun q => ?_) (fun q => ?_)
      · rw [e1] at q
        have q := nne_use q
        refine ix_i (10 + j) (by simp only [nI_add]) (show 10 + j < 78 by omega) ?_
        refine And.intro (fun q2 => ?_) (fun q2 => ?_)
        · rw [e1] at q2
          have q2 := nne_use q2
          exact no (by omega)
        · rw [e1] at q2
          have q2 := neq_use q2
          refine ix_i (22 + j) (by simp only [nI_add]) (show 22 + j < 78 by omega) ?_
          refine And.intro (fun q3 => ?_) (fun q3 => ?_)
          · rw [e2] at q3
            have q3 := nne_use q3
            exact no (by omega)
          · rw [e2] at q3
            have q3 := neq_use q3
            exact yes (by omega)
      · rw [e1] at q
        have q := neq_use q
        refine ix_i (22 + j) (by simp only [nI_add]) (show 22 + j < 78 by omega) ?_
        refine And.intro (fun q2 => ?_) (fun q2 => ?_)
        · rw [e2] at q2
          have q2 := neq_use q2
          exact yes (by omega)
        · rw [e2] at q2
          have q2 := nne_use q2
          refine ix_i (10 + j) (by simp only [nI_add]) (show 10 + j < 78 by omega) ?_
          refine And.intro (fun q3 => ?_) (fun q3 => ?_)
          · rw [e1] at q3
            have q3 := nne_use q3
            exact no (by omega)
          · rw [e1] at q3
            have q3 := neq_use q3
            refine ix_i (22 + j) (by simp only [nI_add]) (show 22 + j < 78 by omega) ?_
            refine And.intro (fun q4 => ?_) (fun q4 => ?_)
            · rw [e2] at q4
              have q4 := nne_use q4
              exact no (by omega)
            · rw [e2] at q4
              have q4 := neq_use q4
              exact yes (by omega)
  exact key 0 (Nat.zero_le _) (-1) (Or.inl ⟨rfl, rfl⟩)
theorem m_takesOf {X Y : Nat} (hn : nwM M 54 0 D) (hL : wfL D) (hX : X < 7) (hY : Y < 7) (hp : 0 < pm D X Y) (hK : K (some (vi (nI (pm D X Y)))) M) : ab_Call (d + 1) 192 [vr 49 0, vi (nI X), vi (nI Y)] M K := by
  refine caX10_takesOf rfl (atX10_takesOf ?_)
  have hL' := hL
  obtain ⟨w0, w1, w2, w3, w4⟩ := hL'
  refine m_pathOf hn hL hX hY (fun k hk hkp _ => ?_) (fun q => absurd q (by omega))
  refine ix_i (34 + k) (by simp only [nI_add]) (show 34 + k < 78 by omega) ?_
  rw [hkp, show nI (D (34 + k)) = M.1 54 0 (34 + k) from (nw hn (by omega)).symm] at hK
  exact hK
theorem m_stretch {k : Nat} (hn : nwM M 54 0 D) (hw : wf D) (hk : k + 1 < D 4) (hK : K (some (vi (nI (sg D k)))) M) : ab_Call (d + 2) 193 [vr 49 0, vi (nI k)] M K := by
  refine caX10_stretch rfl (atX10_stretch ?_)
  have hb := bnd_of hw
  obtain ⟨b3, b4, b5, b6, b7, b8⟩ := hb
  refine ix_i (46 + k) (by simp only [nI_add]) (show 46 + k < 78 by omega) ?_
  refine ix_i (46 + k + 1) (by simp only [nI_add]) (show 46 + k + 1 < 78 by omega) ?_
  rw [show M.1 54 0 (46 + k) = _ from nw hn (by omega), show M.1 54 0 (46 + k + 1) = _ from nw hn (by omega)]
  exact m_takesOf hn hw.1 (b7 k (by omega)) (b7 (k + 1) hk) (hw.2.2.2.2.2.2.2.1 k hk) hK
theorem m_haresAt {k : Nat} (hn : nwM M 54 0 D) (hw : wf D) (hk : k = 0 ∨ k < D 4) (hK : K (some (vi (nI (hrs D k)))) M) : ab_Call (d + 3) 220 [vr 49 0, vi (nI k)] M K := by
  refine caX10_haresAt rfl (atX10_haresAt ?_)
  have hb4 := (bnd_of hw).2.1
  have key : ∀ j, j ≤ k → ab_At miX10_haresAt (d + 3) 4 [some (vr 49 0), some (vi (nI k)), some (vi (nI (hrs D j))), some (vi (nI j))] [] M K := by
    refine up_ind fun j hj ih => ?_
    refine atX10_haresAt ?_
    refine And.intro (fun h => ?_) (fun h => ?_)
    · have : j = k := by have := nle_use h; omega
      subst this
      exact hK
    · have hjn := nlt_use h
      refine m_stretch hn hw (by omega) ?_
      have := ih hjn
      rw [← nI_1, show hrs D (j + 1) = hrs D j + sg D j from rfl, ← nI_add] at this
      exact this
  exact key 0 (Nat.zero_le _)
end ModelC
