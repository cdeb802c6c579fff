/-! ===== false ends ===== -/
def lyD (D : Nat → Nat) (x y m : Nat) : Nat → Nat := fun j => if j = 5 then D 5 + 1 else if j = 53 + D 5 then x else if j = 61 + D 5 then y else if j = 69 + D 5 then m else D j
theorem lyD_5 {D : Nat → Nat} {x y m : Nat} : lyD D x y m 5 = D 5 + 1 := rfl
theorem lyD_x {D : Nat → Nat} {x y m : Nat} : lyD D x y m (53 + D 5) = x := by
  unfold lyD
  rw [if_neg (by omega), if_pos rfl]
theorem lyD_y {D : Nat → Nat} {x y m : Nat} : lyD D x y m (61 + D 5) = y := by
  unfold lyD
  rw [if_neg (by omega), if_neg (by omega), if_pos rfl]
theorem lyD_m {D : Nat → Nat} {x y m : Nat} : lyD D x y m (69 + D 5) = m := by
  unfold lyD
  rw [if_neg (by omega), if_neg (by omega), if_neg (by omega), if_pos rfl]
theorem lyD_o {D : Nat → Nat} {x y m j : Nat} (h5 : j ≠ 5) (h1 : j ≠ 53 + D 5) (h2 : j ≠ 61 + D 5) (h3 : j ≠ 69 + D 5) : lyD D x y m j = D j := by
  unfold lyD
  rw [if_neg h5, if_neg h1, if_neg h2, if_neg h3]
theorem lyD_eqL {D : Nat → Nat} {x y m : Nat} : eqL D (lyD D x y m) := fun j hj => lyD_o (by omega) (by omega) (by omega) (by omega)
theorem lyD_t {D : Nat → Nat} {x y m k : Nat} (hk : k < 7) : lyD D x y m (46 + k) = D (46 + k) := lyD_o (by omega) (by omega) (by omega) (by omega)
theorem lyD_e {D : Nat → Nat} {x y m e : Nat} (h5 : D 5 < 8) (he : e < D 5) : lyD D x y m (53 + e) = D (53 + e) ∧ lyD D x y m (61 + e) = D (61 + e) ∧ lyD D x y m (69 + e) = D (69 + e) :=
  ⟨lyD_o (by omega) (by omega) (by omega) (by omega), lyD_o (by omega) (by omega) (by omega) (by omega), lyD_o (by omega) (by omega) (by omega) (by omega)⟩
theorem wf_ly {D : Nat → Nat} {x y m : Nat} (hw : wf D) (h5 : D 5 < 8) (ha : adm D x y) (hy : y < D 0) (m1 : 1 ≤ m) (m5 : m ≤ 5) : wf (lyD D x y m) := by
  have hb := bnd_of hw
  obtain ⟨b3, b4, b5, b6, b7, b8⟩ := hb
  obtain ⟨hL, w3, w4, w5, w6, w7, w8, w9, w10, w11, w12⟩ := hw
  obtain ⟨k, k1, k2, k3, k4, k5⟩ := ha
  have hp := pm_cong (lyD_eqL (D := D) (x := x) (y := y) (m := m)) hL.2.2.1
  have e0 : lyD D x y m 0 = D 0 := lyD_o (by omega) (by omega) (by omega) (by omega)
  have e4 : lyD D x y m 4 = D 4 := lyD_o (by omega) (by omega) (by omega) (by omega)
  refine ⟨wfL_cong lyD_eqL hL, ?_, ?_, ?_, ?_, ?_, ?_, ?_, ?_, ?_, ?_⟩
  · rw [lyD_o (by omega) (by omega) (by omega) (by omega)]; exact w3
  · rw [e4, e0]
    rcases w4 with w | ⟨a1, a2, a3, a4⟩
    · exact Or.inl w
    · refine Or.inr ⟨a1, a2, ?_, ?_⟩
      · exact (lyD_t (k := 0) (by omega)).trans a3
      · rw [show 45 + D 4 = 46 + (D 4 - 1) by omega, lyD_t (by omega), show 46 + (D 4 - 1) = 45 + D 4 by omega]
        exact a4
  · rw [lyD_5]; omega
  · intro q
    rw [e4] at q
    omega
  · intro j hj
    rw [e4] at hj
    rw [lyD_t (by omega), e0]
    exact w7 j hj
  · intro i j hij hj
    rw [e4] at hj
    rw [lyD_t (by omega), lyD_t (by omega)]
    exact w8 i j hij hj
  · intro j hj
    rw [e4] at hj
    rw [lyD_t (by omega), show lyD D x y m (46 + j + 1) = D (46 + j + 1) from lyD_t (k := j + 1) (by omega), hp]
    exact w9 j hj
  · intro e he
    rw [lyD_5] at he
    by_cases q : e = D 5
    · subst q
      refine ⟨k, by rw [e4]; exact k1, ?_⟩
      rw [lyD_x, lyD_y, lyD_m, e0, lyD_t (by omega), show lyD D x y m (46 + k + 1) = D (46 + k + 1) from lyD_t (k := k + 1) (by omega), hp]
      refine ⟨k2.symm, hy, fun e => ?_, fun e => k4 e.symm, k3, m1, m5⟩
      rw [e, pm_self hL] at k3
      omega
    · obtain ⟨j, hj⟩ := w10 e (by omega)
      obtain ⟨a1, a2, a3⟩ := lyD_e (x := x) (y := y) (m := m) h5 (show e < D 5 by omega)
      refine ⟨j, ?_⟩
      rw [e4, a1, a2, a3, e0, lyD_t (by omega), show lyD D x y m (46 + j + 1) = D (46 + j + 1) from lyD_t (k := j + 1) (by omega), hp]
      exact hj
  · intro e f hef hf
    rw [lyD_5] at hf
    obtain ⟨a1, a2, -⟩ := lyD_e (x := x) (y := y) (m := m) h5 (show e < D 5 by omega)
    rw [a1, a2]
    by_cases q : f = D 5
    · subst q
      rw [lyD_x, lyD_y]
      exact k5 e (by omega)
    · obtain ⟨c1, c2, -⟩ := lyD_e (x := x) (y := y) (m := m) h5 (show f < D 5 by omega)
      rw [c1, c2]
      exact w11 e f hef (by omega)
  · rw [e0, lyD_o (by omega) (by omega) (by omega) (by omega)]
    exact w12
section Lure
variable {d c : Nat} {M : ab_M} {K : ab_K} {D : Nat → Nat}
/-- the class lays one -/
def adC (M : ab_M) (c e x y m : Nat) : ab_M := ab_sI (ab_sI (ab_sI (ab_sI M 16 c e (nI x)) 17 c e (nI y)) 18 c e (nI m)) 14 c 2 (nI e + nI 1)
theorem c_addEnd {x y m : Nat} (hc : crC M c D) (h5 : D 5 < 8) (hK : K none (adC M c (D 5) x y m)) : ab_Call (d + 1) 24 [vr 14 c, vi (nI x), vi (nI y), vi (nI m)] M K := by
  refine caX1_addEnd rfl (atX1_addEnd ?_)
  refine caX1_setEnd rfl (atX1_setEnd ?_)
  refine ix_i (D 5) hc.2.2.1 h5 (ix_i (D 5) hc.2.2.1 h5 (ix_i (D 5) hc.2.2.1 h5 ?_))
  unfold adC at hK
  rw [← hc.2.2.1] at hK
  exact hK
theorem crC_ad {x y m : Nat} (hc : crC M c D) (hb : bnd D) (h5 : D 5 < 8) : crC (adC M c (D 5) x y m) c (lyD D x y m) := by
  obtain ⟨c1, c2, c3, c4, c5, c6⟩ := hc
  obtain ⟨b3, b4, b5, b6, b7, b8⟩ := hb
  have e3 : lyD D x y m 3 = D 3 := lyD_o (by omega) (by omega) (by omega) (by omega)
  have e4 : lyD D x y m 4 = D 4 := lyD_o (by omega) (by omega) (by omega) (by omega)
  have e77 : lyD D x y m 77 = D 77 := lyD_o (by omega) (by omega) (by omega) (by omega)
  refine ⟨by rw [e3]; unfold adC; rw [sI_k (by omega)]; exact c1, by rw [e4]; unfold adC; rw [sI_k (by omega)]; exact c2, by rw [lyD_5]; unfold adC; rw [sI_eq, nI_add], by rw [e77]; unfold adC; rw [sI_k (by omega)]; exact c4, fun k hk => ?_, fun e he => ?_⟩
  · rw [e4] at hk
    rw [lyD_t (by omega)]
    exact c5 k hk
  · rw [lyD_5] at he
    have f1 : (adC M c (D 5) x y m).1 16 c e = (ab_sI M 16 c (D 5) (nI x)).1 16 c e := rfl
    have f2 : (adC M c (D 5) x y m).1 17 c e = (ab_sI (ab_sI M 16 c (D 5) (nI x)) 17 c (D 5) (nI y)).1 17 c e := rfl
    have f3 : (adC M c (D 5) x y m).1 18 c e = (ab_sI (ab_sI (ab_sI M 16 c (D 5) (nI x)) 17 c (D 5) (nI y)) 18 c (D 5) (nI m)).1 18 c e := rfl
    rw [f1, f2, f3]
    by_cases q : e = D 5
    · subst q
      rw [lyD_x, lyD_y, lyD_m, sI_eq, sI_eq, sI_eq]
      exact ⟨rfl, rfl, rfl⟩
    · obtain ⟨a1, a2, a3⟩ := lyD_e (x := x) (y := y) (m := m) h5 (show e < D 5 by omega)
      rw [a1, a2, a3]
      obtain ⟨z1, z2, z3⟩ := c6 e (by omega)
      exact ⟨by rw [sI_k q]; exact z1, by rw [sI_k q]; exact z2, by rw [sI_k q]; exact z3⟩
/-- the reference -/
def lyM (M : ab_M) (e x y m : Nat) : ab_M := ab_sI (ab_sI (ab_sI (ab_sI M 54 0 (53 + e) (nI x)) 54 0 (61 + e) (nI y)) 54 0 (69 + e) (nI m)) 54 0 5 (nI e + nI 1)
theorem m_lays {x y m : Nat} (hn : nwM M 54 0 D) (h5 : D 5 < 8) (hK : K none (lyM M (D 5) x y m)) : ab_Call d 211 [vr 49 0, vi (nI x), vi (nI y), vi (nI m)] M K := by
  refine caX10_lays rfl (atX10_lays ?_)
  have e5 := nw hn (show 5 < 78 by omega)
  refine ix_i (53 + D 5) (by rw [e5, nI_add]) (show _ < 78 by omega) ?_
  refine ix_i (61 + D 5) (by rw [e5, nI_add]) (show _ < 78 by omega) ?_
  refine ix_i (69 + D 5) (by rw [e5, nI_add]) (show _ < 78 by omega) ?_
  have e : (ab_sI (ab_sI (ab_sI M 54 0 (53 + D 5) (nI x)) 54 0 (61 + D 5) (nI y)) 54 0 (69 + D 5) (nI m)).1 54 0 5 = nI (D 5) := by
    rw [sI_k (by omega), sI_k (by omega), sI_k (by omega), e5]
  unfold lyM at hK
  rw [← e] at hK
  exact hK
theorem nwM_ly {x y m : Nat} (hn : nwM M 54 0 D) : nwM (lyM M (D 5) x y m) 54 0 (lyD D x y m) := by
  intro j hj
  rw [Nat.zero_add]
  unfold lyM lyD
  by_cases q5 : j = 5
  · subst q5
    rw [sI_eq, if_pos rfl, nI_add]
  · rw [sI_k q5, if_neg q5]
    by_cases q3 : j = 69 + D 5
    · subst q3
      rw [sI_eq, if_neg (by omega), if_neg (by omega), if_pos rfl]
    · rw [sI_k q3]
      by_cases q2 : j = 61 + D 5
      · subst q2
        rw [sI_eq, if_neg (by omega), if_pos rfl]
      · rw [sI_k q2]
        by_cases q1 : j = 53 + D 5
        · subst q1
          rw [sI_eq, if_pos rfl]
        · rw [sI_k q1, if_neg q1, if_neg q2, if_neg q3]
          exact nw hn hj
theorem m_spotOf {X : Nat} (hn : nwM M 54 0 D) (hb : bnd D) (hX : X < 2 ^ 31) (h1 : ∀ k, k < D 4 → D (46 + k) = X → K (some (vi (nI k))) M) (h0 : (∀ k, k < D 4 → D (46 + k) ≠ X) → K (some (vi (-1))) M) : ab_Call d 209 [vr 49 0, vi (nI X)] M K := by
  refine ab_Call_nr (caX10_spotOf rfl (atX10_spotOf ?_))
  obtain ⟨b3, b4, b5, b6, b7, b8⟩ := hb
  have key : ∀ j, j ≤ D 4 → ∀ f : Int32, ((f = -1 ∧ ∀ i, i < j → D (46 + i) ≠ X) ∨ ∃ k, k < j ∧ f = nI k ∧ D (46 + k) = X) → ab_At miX10_spotOf d 4 [some (vr 49 0), some (vi (nI X)), some (vi f), some (vi (nI j))] [] M (fun r M => K (r.map ab_nr) M) := by
    refine up_ind fun j hj ih f hf => ?_
    refine atX10_spotOf ?_
    refine And.intro (fun h => ?_) (fun h => ?_)
    · rw [nw hn (by omega)] at h
      have : j = D 4 := by have := nle_use h; omega
      subst this
      rcases hf with ⟨rfl, hf⟩ | ⟨k, hk, rfl, hf⟩
      · exact h0 hf
      · exact h1 k hk hf
    · rw [nw hn (by omega)] at h
      have hjn := nlt_use h
      have e : M.1 54 0 (46 + j) = nI (D (46 + j)) := nw hn (by omega)
      have hbj := b7 j hjn
      refine ix_i (46 + j) (by simp only [nI_add]) (show _ < 78 by omega) ?_
      refine And.intro (fun q => ?_) (fun q => ?_)
      · rw [e] at q
        have := ih hjn f (by
          rcases hf with ⟨e1, hf⟩ | ⟨k, hk, hf⟩
          · exact Or.inl ⟨e1, fun i hi => by rcases Nat.lt_or_ge i j with w | w; exact hf i w; rw [show i = j by omega]; exact nne_use q⟩
          · exact Or.inr ⟨k, by omega, hf⟩)
        rw [← nI_1] at this
        exact this
      · rw [e] at q
        have := ih hjn (nI j) (Or.inr ⟨j, by omega, rfl, neq_use q⟩)
        rw [← nI_1] at this
        exact this
  exact key 0 (Nat.zero_le _) (-1) (Or.inl ⟨rfl, fun i hi => by omega⟩)
theorem m_mayLure {x y : Nat} (hn : nwM M 54 0 D) (hb : bnd D) (hL : wfL D) (hd : ∀ i j, i < j → j < D 4 → D (46 + i) ≠ D (46 + j)) (hx : x < 7) (hy : y < 7) (h1 : adm D x y → K (some (vi (nI 1))) M) (h0 : ¬ adm D x y → K (some (vi (nI 0))) M) : ab_Call (d + 1) 210 [vr 49 0, vi (nI x), vi (nI y)] M K := by
  refine caX10_mayLure rfl (atX10_mayLure ?_)
  have hb' := hb
  obtain ⟨b3, b4, b5, b6, b7, b8⟩ := hb'
  have key : ∀ (P : Prop), (adm D x y ↔ P ∧ ∀ e, e < D 5 → ¬ (D (53 + e) = x ∧ D (61 + e) = y)) → ∀ j, j ≤ D 5 → ∀ m, m ≤ 1 → (m = 1 ↔ P ∧ ∀ e, e < j → ¬ (D (53 + e) = x ∧ D (61 + e) = y)) → ab_At miX10_mayLure (d + 1) 64 [some (vr 49 0), some (vi (nI x)), some (vi (nI y)), none, some (vi (nI m)), some (vi (nI j))] [] M K := by
    intro P hP
    refine up_ind fun j hj ih m hm1 hm => ?_
    refine atX10_mayLure ?_
    refine And.intro (fun h => ?_) (fun h => ?_)
    · rw [nw hn (by omega)] at h
      have : j = D 5 := by have := nle_use h; omega
      subst this
      rcases Nat.lt_or_ge m 1 with q | q
      · have : m = 0 := by omega
        subst this
        exact And.intro (Or.inl rfl) (h0 (fun w => absurd (hm.mpr (hP.mp w)) (by omega)))
      · have : m = 1 := by omega
        subst this
        exact And.intro (Or.inr rfl) (h1 (hP.mpr (hm.mp rfl)))
    · rw [nw hn (by omega)] at h
      have hjn := nlt_use h
      obtain ⟨g1, g2, g3⟩ := b8 j hjn
      have e1 : M.1 54 0 (53 + j) = nI (D (53 + j)) := nw hn (by omega)
      have e2 : M.1 54 0 (61 + j) = nI (D (61 + j)) := nw hn (by omega)
      have go : ∀ m', m' ≤ 1 → (m' = 1 ↔ m = 1 ∧ ¬ (D (53 + j) = x ∧ D (61 + j) = y)) → ab_At miX10_mayLure (d + 1) 64 [some (vr 49 0), some (vi (nI x)), some (vi (nI y)), none, some (vi (nI m')), some (vi (nI j + nI 1))] [] M K := by
        intro m' hm' hmm
        have := ih hjn m' hm' (by
          rw [hmm, hm]
          constructor
          · rintro ⟨⟨p, a⟩, b⟩
            refine ⟨p, fun e he => ?_⟩
            rcases Nat.lt_or_ge e j with w | w
            · exact a e w
            · rw [show e = j by omega]; exact b
          · rintro ⟨p, a⟩
            exact ⟨⟨p, fun e he => a e (by omega)⟩, a j (by omega)⟩)
        rw [← nI_1] at this
        exact this
      refine And.intro (fun q => ?_) (fun q => ?_)
      · exact go 0 (by omega) ⟨fun w => by omega, fun w => by have := neq_use q; omega⟩
      · have q := nne_use q
        have m1 : m = 1 := by omega
        refine ix_i (53 + j) (by simp only [nI_add]) (show _ < 78 by omega) ?_
        refine And.intro (fun q2 => ?_) (fun q2 => ?_)
        · rw [e1] at q2
          have q2 := nne_use q2
          exact go 1 (by omega) ⟨fun _ => ⟨m1, fun w => q2 w.1⟩, fun _ => rfl⟩
        · rw [e1] at q2
          have q2 := neq_use q2
          refine ix_i (61 + j) (by simp only [nI_add]) (show _ < 78 by omega) ?_
          refine And.intro (fun q3 => ?_) (fun q3 => ?_)
          · rw [e2] at q3
            have q3 := neq_use q3
            exact go 0 (by omega) ⟨fun w => by omega, fun w => absurd ⟨q2, q3⟩ w.2⟩
          · rw [e2] at q3
            have q3 := nne_use q3
            exact go 1 (by omega) ⟨fun _ => ⟨m1, fun w => q3 w.2⟩, fun _ => rfl⟩
  have base : ∀ (P : Prop), (adm D x y ↔ P ∧ ∀ e, e < D 5 → ¬ (D (53 + e) = x ∧ D (61 + e) = y)) → ¬ P → ab_At miX10_mayLure (d + 1) 64 [some (vr 49 0), some (vi (nI x)), some (vi (nI y)), none, some (vi (nI 0)), some (vi (nI 0))] [] M K := fun P hP hn => key P hP 0 (Nat.zero_le _) 0 (by omega) ⟨fun w => by omega, fun w => absurd w.1 hn⟩
  refine m_spotOf hn hb (by omega) (fun k hk hkx => ?_) (fun hno => ?_)
  · have uniq : adm D x y ↔ (k + 1 < D 4 ∧ 0 < pm D x y ∧ D (46 + k + 1) ≠ y) ∧ ∀ e, e < D 5 → ¬ (D (53 + e) = x ∧ D (61 + e) = y) := by
      constructor
      · rintro ⟨j, j1, j2, j3, j4, j5⟩
        have : j = k := by
          rcases Nat.lt_trichotomy j k with q | q | q
          · exact absurd (j2.trans hkx.symm) (hd j k q hk)
          · exact q
          · exact absurd (hkx.trans j2.symm) (hd k j q (by omega))
        subst this
        exact ⟨⟨j1, j3, j4⟩, j5⟩
      · rintro ⟨⟨a, b, c⟩, e⟩
        exact ⟨k, a, hkx, b, c, e⟩
    refine And.intro (fun q => absurd q (nI_pos (by omega))) (fun _ => ?_)
    refine And.intro (fun q => ?_) (fun q => ?_)
    · rw [nw hn (by omega), nI_sub1 (by omega) (by omega)] at q
      exact base _ uniq (fun w => by omega)
    · rw [nw hn (by omega), nI_sub1_lt (by omega) (by omega)] at q
      refine And.intro (fun q2 => ?_) (fun q2 => ?_)
      · have : x = y := neq_use q2
        subst this
        exact base _ uniq (fun w => by rw [pm_self hL] at w; omega)
      · refine m_pathOf hn hL hx hy (fun j hj _ hp => ?_) (fun hp => ?_)
        · have := hL.2.2.1
          refine And.intro (fun q => absurd q (nI_pos (by omega))) (fun _ => ?_)
          refine ix_i (46 + k + 1) (by simp only [nI_add]) (show _ < 78 by omega) ?_
          have e : M.1 54 0 (46 + k + 1) = nI (D (46 + k + 1)) := nw hn (by omega)
          have hbk : D (46 + k + 1) < 7 := b7 (k + 1) (by omega)
          refine And.intro (fun q3 => ?_) (fun q3 => ?_)
          · rw [e] at q3
            exact base _ uniq (fun w => w.2.2 (neq_use q3))
          · rw [e] at q3
            exact key _ uniq 0 (Nat.zero_le _) 1 (by omega) ⟨fun _ => ⟨⟨q, hp, nne_use q3⟩, fun e he => by omega⟩, fun _ => rfl⟩
        · refine And.intro (fun _ => ?_) (fun q => absurd q (by decide))
          exact base _ uniq (fun w => by omega)
  · refine And.intro (fun _ => ?_) (fun q => absurd q (by decide))
    exact base False ⟨fun ⟨k, k1, k2, _⟩ => absurd k2 (hno k (by omega)), fun w => w.1.elim⟩ (fun w => w)
theorem Rel_lure {x y m : Nat} (hR : Rel M) (hw : wf D) (h2 : 2 ≤ D 0) (hl : ldC M 0 D) (hc : crC M 0 D) (hn : nwM M 54 0 D) (hk : kp_ok M D) (h5 : D 5 < 8) (ha : adm D x y) (hy : y < D 0) (m1 : 1 ≤ m) (m5 : m ≤ 5) : Rel (lyM (adC M 0 (D 5) x y m) (D 5) x y m) := by
  refine Rel_new (E := lyD D x y m) hR (rw_fr hR.1 rfl rfl rfl rfl) (tx_fr hR.2.1 rfl rfl rfl rfl) hR.2.2.1 rfl (wf_ly hw h5 ha hy m1 m5) (Or.inr (by rw [lyD_o (by omega) (by omega) (by omega) (by omega)]; exact h2)) (fun q => absurd q (by rw [lyD_o (by omega) (by omega) (by omega) (by omega)]; omega)) (ldC_cong lyD_eqL hw.1 (ldC_fr (M := M) rfl rfl (fun _ _ => rfl) hl)) (crC_fr (M := adC M 0 (D 5) x y m) ⟨rfl, rfl, rfl, rfl, rfl⟩ (crC_ad hc (bnd_of hw) h5)) (nwM_ly (M := adC M 0 (D 5) x y m) (fun k hk => hn k hk)) ?_
  intro i hi
  obtain ⟨a1, b1⟩ := kp_cong (lyD_eqL (D := D) (x := x) (y := y) (m := m)) hk i hi
  refine ⟨a1, b1.imp (fun q => q) (fun q => ?_)⟩
  obtain ⟨q1, q2, F, q3, q4, q5, q6⟩ := q
  refine ⟨q1, q2, F, q3, q4, crC_fr (M := M) ⟨?_, rfl, ?_, ?_, ?_⟩ q5, q6⟩
  · exact sI_i (M := ab_sI (ab_sI (ab_sI M 16 0 (D 5) (nI x)) 17 0 (D 5) (nI y)) 18 0 (D 5) (nI m)) (by omega)
  · exact sI_i (M := M) (a := 16) (by omega)
  · exact sI_i (M := ab_sI M 16 0 (D 5) (nI x)) (a := 17) (by omega)
  · exact sI_i (M := ab_sI (ab_sI M 16 0 (D 5) (nI x)) 17 0 (D 5) (nI y)) (a := 18) (by omega)
theorem op_lure {x y z : Int32} (hR : Rel M) : OpI (d + 3) 118 212 [vi x, vi y, vi z] M := by
  obtain ⟨D, hw, hw2, hw3, hl, hc, hn, hk⟩ := Rel_D hR
  have hb0 := hw.1.1
  have hb := bnd_of hw
  have hb4 := hb.2.1
  have hd := hw.2.2.2.2.2.2.1
  have bad : (∀ j, j < D 0 → x ≠ nI j) ∨ (∀ j, j < D 0 → y ≠ nI j) ∨ ¬ (nI 1 ≤ z ∧ z ≤ nI 5) → OpI (d + 3) 118 212 [vi x, vi y, vi z] M := by
    intro h
    have mb : ab_Call (d + 3) 212 [vr 49 0, vi x, vi y, vi z] M (fun r2 M2 => (∃ v, some (vi (-1)) = some (vi v) ∧ r2 = some (vi v)) ∧ Rel M2) := by
      refine ab_Call_nr (caX10_lure rfl (atX10_lure ?_))
      rcases ix_cases x (n := D 0) (by omega) with ⟨i, hi, rfl⟩ | hx
      · refine m_isPlace1 hn hi hb0 ?_
        rcases ix_cases y (n := D 0) (by omega) with ⟨j, hj, rfl⟩ | hy
        · refine m_isPlace1 hn hj hb0 ?_
          refine c_in (a := nI 1) (b := nI 5) rfl rfl (fun q1 q2 => ?_) (fun _ => ⟨⟨_, rfl, rfl⟩, hR⟩)
          rcases h with h | h | h
          · exact absurd rfl (h i hi)
          · exact absurd rfl (h j hj)
          · exact absurd ⟨q1, q2⟩ h
        · exact m_isPlace0 hn hb0 hy ⟨⟨_, rfl, rfl⟩, hR⟩
      · exact m_isPlace0 hn hb0 hx ⟨⟨_, rfl, rfl⟩, hR⟩
    refine ab_Call_nr (caX9_lure rfl (atX9_lure ?_))
    rcases ix_cases x (n := D 0) (by omega) with ⟨i, hi, rfl⟩ | hx
    · refine c_hasPlace1 hl hi hb0 ?_
      rcases ix_cases y (n := D 0) (by omega) with ⟨j, hj, rfl⟩ | hy
      · refine c_hasPlace1 hl hj hb0 ?_
        refine And.intro (fun _ => mb) (fun q1 => And.intro (fun q2 => ?_) (fun _ => mb))
        rcases h with h | h | h
        · exact absurd rfl (h i hi)
        · exact absurd rfl (h j hj)
        · exact absurd ⟨q1, q2⟩ h
      · exact c_hasPlace0 hl hb0 hy mb
    · exact c_hasPlace0 hl hb0 hx mb
  rcases ix_cases x (n := D 0) (by omega) with ⟨i, hi, rfl⟩ | hx
  · rcases ix_cases y (n := D 0) (by omega) with ⟨j, hj, rfl⟩ | hy
    · by_cases hz : nI 1 ≤ z ∧ z ≤ nI 5
      · obtain ⟨m, hm, rfl⟩ : ∃ m, m < 2 ^ 31 ∧ z = nI m := i_of_ge (i_le_trans (nI_le (by omega) (by omega)) hz.1)
        have m1 := nle_use hz.1
        have m5 := nle_use hz.2
        refine ab_Call_nr (caX9_lure rfl (atX9_lure (c_hasPlace1 hl hi hb0 (c_hasPlace1 hl hj hb0 ?_))))
        refine And.intro (fun q => absurd q (fun q => i_lt_le q hz.1)) (fun _ => And.intro (fun _ => ?_) (fun q => absurd q (fun q => i_lt_le q hz.2)))
        rcases Nat.eq_zero_or_pos (D 4) with h4 | h4
        · refine c_isLaid0 hc h4 ?_
          refine ab_Call_nr (caX10_lure rfl (atX10_lure (m_isPlace1 hn hi hb0 (m_isPlace1 hn hj hb0 (c_in1 rfl rfl m1 m5 (by omega) ?_)))))
          exact m_hasTrail0 hn h4 ⟨⟨_, rfl, rfl⟩, hR⟩
        · refine c_isLaid1 hc hb h4 ?_
          refine c_admits hl hc hb hw.1 hd (by omega) (by omega) (fun ha => ?_) (fun ha => ?_)
          · rcases Nat.lt_or_ge (D 5) 8 with h5 | h5
            · refine c_isFull0 hc h5 ?_
              refine c_addEnd hc h5 ?_
              refine ab_Call_nr (caX10_lure rfl (atX10_lure (m_isPlace1 (D := D) (fun k hk => hn k hk) hi hb0 (m_isPlace1 (D := D) (fun k hk => hn k hk) hj hb0 (c_in1 rfl rfl m1 m5 (by omega) ?_)))))
              refine m_hasTrail1 (D := D) (fun k hk => hn k hk) h4 hb4 ?_
              refine m_mayLure (D := D) (fun k hk => hn k hk) hb hw.1 hd (by omega) (by omega) (fun _ => ?_) (fun q => absurd ha q)
              refine And.intro (fun _ => ?_) (fun q => absurd q (by decide))
              have e5 : (adC M 0 (D 5) i j m).1 54 0 5 = nI (D 5) := nw hn (by omega)
              refine And.intro (fun _ => ?_) (fun q => absurd (neq_use (e5.symm.trans q)) (by omega))
              refine m_lays (D := D) (fun k hk => hn k hk) h5 ?_
              refine ⟨⟨_, rfl, ?_⟩, Rel_lure hR hw (by omega) hl hc hn hk h5 ha hj m1 m5⟩
              have f1 : (adC M 0 (D 5) i j m).1 14 0 2 = nI (D 5) + nI 1 := sI_eq (M := ab_sI (ab_sI (ab_sI M 16 0 (D 5) (nI i)) 17 0 (D 5) (nI j)) 18 0 (D 5) (nI m))
              have f2 : (lyM (adC M 0 (D 5) i j m) (D 5) i j m).1 54 0 5 = nI (D 5) + nI 1 := sI_eq (M := ab_sI (ab_sI (ab_sI (adC M 0 (D 5) i j m) 54 0 (53 + D 5) (nI i)) 54 0 (61 + D 5) (nI j)) 54 0 (69 + D 5) (nI m))
              exact congrArg (fun v => some (vi v)) (f2.trans f1.symm)
            · have h8 : D 5 = 8 := by have := hb.2.2.1; omega
              refine c_isFull1 hc h8 ?_
              refine ab_Call_nr (caX10_lure rfl (atX10_lure (m_isPlace1 hn hi hb0 (m_isPlace1 hn hj hb0 (c_in1 rfl rfl m1 m5 (by omega) (m_hasTrail1 hn h4 hb4 ?_))))))
              refine m_mayLure hn hb hw.1 hd (by omega) (by omega) (fun _ => ?_) (fun q => absurd ha q)
              refine And.intro (fun _ => ?_) (fun q => absurd q (by decide))
              exact And.intro (fun q => absurd ((nw hn (by omega)).trans (by rw [h8])) q) (fun _ => ⟨⟨_, rfl, rfl⟩, hR⟩)
          · refine c_refuse (by omega) (by omega) ?_
            refine ab_Call_nr (caX10_lure rfl (atX10_lure (m_isPlace1 (D := D) (fun k hk => hn k hk) hi hb0 (m_isPlace1 (D := D) (fun k hk => hn k hk) hj hb0 (c_in1 rfl rfl m1 m5 (by omega) (m_hasTrail1 (D := D) (fun k hk => hn k hk) h4 hb4 ?_))))))
            refine m_mayLure (D := D) (fun k hk => hn k hk) hb hw.1 hd (by omega) (by omega) (fun q => absurd q ha) (fun _ => ?_)
            refine And.intro (fun q => absurd rfl q) (fun _ => ?_)
            refine m_found (by omega) (by omega) ?_
            exact ⟨⟨_, rfl, rfl⟩, Rel_rf 3 hR⟩
      · exact bad (Or.inr (Or.inr hz))
    · exact bad (Or.inr (Or.inl hy))
  · exact bad (Or.inl hx)
end Lure
