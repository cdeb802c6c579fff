/-! ===== the trail: the reference; trail(r) ===== -/
section Trail2
variable {d : Nat} {M : ab_M} {K : ab_K} {D : Nat → Nat}
theorem m_isTrail {r n : Nat} (hr : r < 6) (hn40 : n ≤ 40) (hs : M.1 50 0 r = nI n) (hn : nwM M 54 0 D) (hL : wfL D) (h2 : 2 ≤ D 0) (h1 : ∀ t, isTr D (fun k => M.1 51 0 (40 * r + k)) n t → K (some (.inl 1)) M) (h0 : (∀ t, ¬ isTr D (fun k => M.1 51 0 (40 * r + k)) n t) → K (some (.inl 0)) M) : ab_Call (d + 2) 207 [vr 49 0, vi (nI r)] M K := by
  refine caX10_isTrail rfl (atX10_isTrail ?_)
  have hb0 := hL.1
  refine ix_i r rfl hr ?_
  rw [hs]
  refine c_in rfl rfl (fun q1 q2 => ?_) (fun q => h0 (fun t w => q ⟨nI_le w.1 (by omega), nI_le w.2.1 (by omega)⟩))
  have hn2 := nle_use q1
  have hn7 := nle_use q2
  refine ix_i (40 * r) (by rw [pk_mul]) (show 40 * r < 240 by omega) ?_
  refine And.intro (fun q => h0 (fun t w => q ((w.2.2.1 0 (by omega)).1.trans (by rw [w.2.2.2.1])))) (fun q0 => ?_)
  refine ix_i (40 * r + (n - 1)) (by rw [pk_mul, nI_add, pk_sub (by omega)]; congr 1; omega) (show _ < 240 by omega) ?_
  have einn : M.1 54 0 0 - nI 1 = nI (D 0 - 1) := by rw [nw hn (by omega), pk_sub (by omega)]
  refine And.intro (fun q => ?_) (fun q => h0 (fun t w => q ((w.2.2.1 (n - 1) (by omega)).1.trans (by rw [einn]; congr 1; have := w.2.2.2.2.1; omega))))
  rw [einn] at q
  have key : ∀ k, k ≤ n → ∀ (b : Nat) (t : Nat → Nat), b < 128 → (∀ p, p < 7 → (wb b p = 1 ↔ ∃ j, j < k ∧ t j = p)) → (∀ j, j < k → M.1 51 0 (40 * r + j) = nI (t j) ∧ t j < D 0) → (∀ i j, i < j → j < k → t i ≠ t j) → (∀ j, j + 1 < k → 0 < pm D (t j) (t (j + 1))) →
      ab_At miX10_isTrail (d + 2) 64 [some (vr 49 0), some (vi (nI r)), some (vi (nI n)), some (vi (nI b)), some (vi (nI k))] [] M K := by
    refine up_ind fun k hk ih b t hb hm ht hd hp => ?_
    refine atX10_isTrail ?_
    refine And.intro (fun h => ?_) (fun h => ?_)
    · have : k = n := by have := nle_use h; omega
      subst this
      refine h1 t ⟨hn2, hn7, ht, ?_, ?_, hd, hp⟩
      · have e := (ht 0 (by omega)).1
        have e : nI 0 = nI (t 0) := q0.symm.trans e
        have := (ht 0 (by omega)).2
        exact (neq_use e).symm
      · have e := (ht (k - 1) (by omega)).1
        rw [q] at e
        have := (ht (k - 1) (by omega)).2
        have := neq_use e
        omega
    · have hkn := nlt_use h
      refine ix_i (40 * r + k) (by simp only [pk_mul, nI_add]) (show _ < 240 by omega) ?_
      have nope : (∀ p, p < D 0 → M.1 51 0 (40 * r + k) = nI p → wb b p = 1 ∨ (0 < k ∧ pm D (t (k - 1)) p = 0)) → ∀ t', ¬ isTr D (fun k => M.1 51 0 (40 * r + k)) n t' := by
        intro hno t' w
        have same : ∀ j, j < k → t' j = t j := fun j hj => by
          have e1 : M.1 51 0 (40 * r + j) = nI (t' j) := (w.2.2.1 j (by omega)).1
          have e2 := (ht j hj).1
          rw [e1] at e2
          have := (w.2.2.1 j (by omega)).2
          have := (ht j hj).2
          exact neq_use e2
        obtain ⟨e1, e2⟩ := w.2.2.1 k hkn
        rcases hno (t' k) e2 e1 with z | ⟨z0, z⟩
        · obtain ⟨j, hj, ej⟩ := (hm (t' k) (by omega)).mp z
          exact w.2.2.2.2.2.1 j k hj hkn (by rw [same j hj, ej])
        · have := w.2.2.2.2.2.2 (k - 1) (by omega)
          rw [same (k - 1) (by omega), show k - 1 + 1 = k by omega, z] at this
          omega
      rcases ix_cases (M.1 51 0 (40 * r + k)) (n := D 0) (by omega) with ⟨p, hp0, ep⟩ | hno
      · rw [ep]
        refine m_isPlace1 hn hp0 hb0 ?_
        refine And.intro (fun z => h0 (nope (fun p' hp' e' => ?_))) (fun z => ?_)
        · rw [ep] at e'
          have : p = p' := neq_use e'
          subst this
          rw [nI_bit (by omega) (by omega)] at z
          rcases wb_01 b p with y | y
          · rw [y] at z
            exact absurd z (by decide)
          · exact Or.inl y
        · rw [nI_bit (by omega) (by omega)] at z
          have hw0 : wb b p = 0 := by
            rcases wb_01 b p with y | y
            · exact y
            · rw [y] at z
              exact absurd rfl z
          have go : (0 < k → 0 < pm D (t (k - 1)) p) → ab_At miX10_isTrail (d + 2) 64 [some (vr 49 0), some (vi (nI r)), some (vi (nI n)), some (vi (nI b ||| ab_shl (nI 1) (nI p))), some (vi (nI k + nI 1))] [] M K := by
            intro hpp
            have hor : nI b ||| ab_shl (nI 1) (nI p) = nI (b ||| 2 ^ p) := by rw [nI_shl1 (by omega), nI_or]
            have := ih hkn (b ||| 2 ^ p) (fun j => if j = k then p else t j) (or_lt (n := 7) hb (by omega)) (fun p' hp' => ?_) (fun j hj => ?_) (fun i j hij hj => ?_) (fun j hj => ?_)
            · rw [← nI_1, ← hor] at this
              exact this
            · rw [wb_or]
              by_cases y : p' = p
              · subst y
                rw [if_pos rfl]
                exact ⟨fun _ => ⟨k, by omega, if_pos rfl⟩, fun _ => rfl⟩
              · rw [if_neg y, hm p' hp']
                constructor
                · rintro ⟨j, hj, e⟩
                  exact ⟨j, by omega, by rw [if_neg (by omega)]; exact e⟩
                · rintro ⟨j, hj, e⟩
                  by_cases jk : j = k
                  · rw [if_pos jk] at e
                    exact absurd e.symm y
                  · rw [if_neg jk] at e
                    exact ⟨j, by omega, e⟩
            · by_cases jk : j = k
              · subst jk
                rw [if_pos rfl]
                exact ⟨ep, hp0⟩
              · rw [if_neg jk]
                exact ht j (by omega)
            · rw [if_neg (show ¬ i = k by omega)]
              by_cases jk : j = k
              · rw [if_pos jk]
                intro e
                have := (hm p (by omega)).mpr ⟨i, by omega, e⟩
                omega
              · rw [if_neg jk]
                exact hd i j hij (by omega)
            · rw [if_neg (show ¬ j = k by omega)]
              by_cases jk : j + 1 = k
              · rw [if_pos jk, show j = k - 1 by omega]
                exact hpp (by omega)
              · rw [if_neg jk]
                exact hp j (by omega)
          refine And.intro (fun z => ?_) (fun z => ?_)
          · have : k = 0 := by have : k ≤ 0 := nle_use z; omega
            exact go (fun q => absurd q (by omega))
          · have hk0 : 0 < k := nlt_use z
            refine ix_i (40 * r + (k - 1)) (by rw [pk_mul, nI_add, pk_sub (by omega)]; congr 1; omega) (show _ < 240 by omega) ?_
            obtain ⟨e1, e2⟩ := ht (k - 1) (by omega)
            rw [e1]
            refine m_pathOf hn hL (by omega) (by omega) (fun j hj _ hpp => ?_) (fun hpp => ?_)
            · have := hL.2.2.1
              exact And.intro (fun _ => go (fun _ => hpp)) (fun q => absurd q (nI_pos (by omega)))
            · refine And.intro (fun q => absurd q (by decide)) (fun _ => ?_)
              exact h0 (nope (fun p' hp' e' => by
                rw [ep] at e'
                have : p = p' := neq_use e'
                subst this
                exact Or.inr ⟨hk0, hpp⟩))
      · refine m_isPlace0 hn hb0 hno ?_
        exact h0 (nope (fun p hp e => absurd e (hno p hp)))
  exact key 0 (by omega) 0 (fun _ => 0) (by omega) (fun p hp => ⟨fun h => absurd h (by rw [wb_0]; omega), fun ⟨j, hj, _⟩ => by omega⟩) (fun j hj => by omega) (fun i j hij hj => by omega) (fun j hj => by omega)
/-- a country with another trail -/
def trD (D : Nat → Nat) (t : Nat → Nat) (n : Nat) : Nat → Nat := fun j => if j = 4 then n else if j = 5 then 0 else if 46 ≤ j ∧ j < 46 + n then t (j - 46) else D j
theorem trD_4 {D t : Nat → Nat} {n : Nat} : trD D t n 4 = n := rfl
theorem trD_5 {D t : Nat → Nat} {n : Nat} : trD D t n 5 = 0 := rfl
theorem trD_t {D t : Nat → Nat} {n k : Nat} (h : k < n) : trD D t n (46 + k) = t k := by
  unfold trD
  rw [if_neg (by omega), if_neg (by omega), if_pos ⟨by omega, by omega⟩, Nat.add_sub_cancel_left]
theorem trD_o {D t : Nat → Nat} {n j : Nat} (h4 : j ≠ 4) (h5 : j ≠ 5) (h : j < 46 ∨ 46 + n ≤ j) : trD D t n j = D j := by
  unfold trD
  rw [if_neg h4, if_neg h5, if_neg (by omega)]
theorem trD_eqL {D t : Nat → Nat} {n : Nat} : eqL D (trD D t n) := fun j hj => trD_o (by omega) (by omega) (by omega)
theorem wf_tr {D t : Nat → Nat} {n : Nat} {f : Nat → Int32} (hw : wf D) (ht : isTr D f n t) : wf (trD D t n) := by
  obtain ⟨hL, w3, w4, w5, w6, w7, w8, w9, w10, w11, w12⟩ := hw
  obtain ⟨t1, t2, t3, t4, t5, t6, t7⟩ := ht
  have hp := pm_cong (trD_eqL (D := D) (t := t) (n := n)) hL.2.2.1
  have hnD : n ≤ D 0 := fb_holes (D 0) n t (fun i hi => (t3 i hi).2) t6
  have e0 : trD D t n 0 = D 0 := trD_o (by omega) (by omega) (by omega)
  refine ⟨wfL_cong trD_eqL hL, by rw [trD_o (by omega) (by omega) (by omega)]; exact w3, Or.inr ⟨t1, by rw [e0]; exact hnD, ?_, ?_⟩, by rw [trD_5]; omega, fun _ => rfl, ?_, ?_, ?_, fun e he => absurd he (by rw [trD_5]; omega), fun e f _ hf => absurd hf (by rw [trD_5]; omega), ?_⟩
  · exact (trD_t (k := 0) (by omega)).trans t4
  · rw [trD_4, show 45 + n = 46 + (n - 1) by omega, trD_t (by omega), e0]
    exact t5
  · intro k hk
    rw [trD_4] at hk
    rw [trD_t hk, e0]
    exact (t3 k hk).2
  · intro j k hj hk
    rw [trD_4] at hk
    rw [trD_t hk, trD_t (by omega)]
    exact t6 j k hj hk
  · intro k hk
    rw [trD_4] at hk
    rw [trD_t (by omega), show trD D t n (46 + k + 1) = t (k + 1) from trD_t (k := k + 1) hk, hp]
    exact t7 k hk
  · rw [e0, trD_o (by omega) (by omega) (by omega)]
    exact w12
theorem isTr_cong {f g : Nat → Int32} {n : Nat} {t : Nat → Nat} (h : ∀ k, k < n → f k = g k) (ht : isTr D f n t) : isTr D g n t := by
  obtain ⟨t1, t2, t3, t4⟩ := ht
  exact ⟨t1, t2, fun k hk => ⟨(h k hk).symm.trans (t3 k hk).1, (t3 k hk).2⟩, t4⟩
theorem neg_no {x : Int32} {n : Nat} (h : x = nI n) (hn : n < 2 ^ 31) : ¬ x < nI 0 := by rw [h]; exact nI_pos hn
/-- what the class's trail(r) leaves, what the reference's -/
def trC (M : ab_M) (r n : Nat) : ab_M := ab_sI (ab_sI (ab_sC M 3 r 0 15 0 0 n) 14 0 1 (nI n)) 14 0 2 (nI 0)
def trM (M : ab_M) (t : Nat → Nat) (n : Nat) : ab_M := ab_sI (sR (ab_sI M 54 0 4 (nI n)) 54 0 (cpf (fun j => nI (t j)) ((ab_sI M 54 0 4 (nI n)).1 54 0) 0 46 n)) 54 0 5 (nI 0)
theorem C_trail {r n : Nat} {t : Nat → Nat} (hr : r < 6) (hn40 : n ≤ 40) (a : M.1 4 0 r = nI n) (hl : ldC M 0 D) (hL : wfL D) (h2 : 2 ≤ D 0) (ht : isTr D (M.1 3 r) n t) (hK : K (some (vi (nI n - nI 1))) (trC M r n)) : ab_Call (d + 3) 117 [vr 0 0, vi (nI r)] M K := by
  refine ab_Call_nr (caX9_trail rfl (atX9_trail (c_hasR1 hr ?_)))
  refine c_isBare0 hl (by omega) hL.1 ?_
  refine c_isThR hr hn40 a ?_
  refine ix_i r rfl hr (ix_i r rfl hr ?_)
  rw [a]
  refine c_isTrail hr hn40 hl hL h2 (fun t' _ => ?_) (fun hnt => absurd ht (hnt t))
  refine ix_i r rfl hr (ix_i r rfl hr ?_)
  rw [a]
  have := ht.2.1
  refine caX1_follow rfl (atX1_follow ?_)
  refine cp_i 0 0 n rfl rfl rfl (show 0 + n ≤ 40 by omega) (show 0 + n ≤ 7 by omega) ?_
  refine caX1_last rfl (atX1_last ?_)
  exact hK
theorem M_trail {r n : Nat} {t : Nat → Nat} (hr : r < 6) (hn40 : n ≤ 40) (b : M.1 50 0 r = nI n) (hn : nwM M 54 0 D) (hL : wfL D) (h2 : 2 ≤ D 0) (ht : isTr D (fun k => M.1 51 0 (40 * r + k)) n t) (hK : K (some (vi (nI n - nI 1))) (trM M t n)) : ab_Call (d + 3) 208 [vr 49 0, vi (nI r)] M K := by
  refine ab_Call_nr (caX10_trail rfl (atX10_trail (m_isRow1 hr ?_)))
  have hb0 := hL.1
  refine And.intro (fun _ => ?_) (fun q => absurd ((nw hn (by omega)).symm.trans q) (nI_ne0 (by omega) (by omega)))
  refine ix_i r rfl hr ?_
  refine And.intro (fun _ => ?_) (fun q => absurd q (neg_no b (by omega)))
  refine m_isTrail (D := D) hr hn40 b hn hL h2 (fun t' _ => ?_) (fun hnt => absurd ht (hnt t))
  refine ix_i r rfl hr ?_
  rw [b]
  have t2 := ht.2.1
  have key : ∀ k, k ≤ n → ab_At miX10_trail (d + 3) 64 [some (vr 49 0), some (vi (nI r)), some (vi (nI k))] [] (sR (ab_sI M 54 0 4 (nI n)) 54 0 (cpf (fun j => nI (t j)) ((ab_sI M 54 0 4 (nI n)).1 54 0) 0 46 k)) (fun r M => K (r.map ab_nr) M) := by
    refine up_ind fun k hk ih => ?_
    refine atX10_trail ?_
    have e4 : (sR (ab_sI M 54 0 4 (nI n)) 54 0 (cpf (fun j => nI (t j)) ((ab_sI M 54 0 4 (nI n)).1 54 0) 0 46 k)).1 54 0 4 = nI n := by
      rw [sR_eq]
      unfold cpf
      rw [if_neg (by omega), sI_eq]
    refine And.intro (fun h => ?_) (fun h => ?_)
    · rw [e4] at h
      have : k = n := by have := nle_use h; omega
      subst this
      have e5 : (trM M t k).1 54 0 4 - nI 1 = nI k - nI 1 := by
        unfold trM
        rw [sI_k (by omega), e4]
      rw [← e5] at hK
      exact hK
    · rw [e4] at h
      have hkn := nlt_use h
      refine ix_i (40 * r + k) (by simp only [pk_mul, nI_add]) (show _ < 240 by omega) ?_
      refine ix_i (46 + k) (by simp only [nI_add]) (show _ < 78 by omega) ?_
      have := ih hkn
      have hrow : M.1 51 0 (40 * r + k) = nI (t k) := (ht.2.2.1 k hkn).1
      rw [← cpf_s, ← sI_sR, ← nI_1, Nat.zero_add, ← hrow] at this
      exact this
  have := key 0 (Nat.zero_le _)
  rw [cpf_0, sR_self] at this
  exact this
theorem Rel_trail {r n : Nat} {t : Nat → Nat} (hR : Rel M) (hw : wf D) (h2 : 2 ≤ D 0) (hl : ldC M 0 D) (hc : crC M 0 D) (hn : nwM M 54 0 D) (hk : kp_ok M D) (ht : isTr D (M.1 3 r) n t) : Rel (trM (trC M r n) t n) := by
  have ht' := ht
  obtain ⟨t1, t2, t3, t4, t5, t6, t7⟩ := ht'
  refine Rel_new (E := trD D t n) hR (rw_fr hR.1 rfl rfl rfl rfl) (tx_fr hR.2.1 rfl rfl rfl rfl) hR.2.2.1 rfl (wf_tr hw ht) (Or.inr (by rw [trD_o (by omega) (by omega) (by omega)]; exact h2)) (fun q => absurd q (by rw [trD_o (by omega) (by omega) (by omega)]; omega)) (ldC_cong trD_eqL hw.1 (ldC_fr (M := M) rfl rfl (fun _ _ => rfl) hl)) ?_ ?_ ?_
  · refine ⟨?_, rfl, rfl, ?_, fun j hj => ?_, fun e he => absurd he (by rw [trD_5]; omega)⟩
    · rw [trD_o (by omega) (by omega) (by omega)]; exact hc.1
    · rw [trD_o (by omega) (by omega) (by omega)]; exact hc.2.2.2.1
    · have hj : j < n := hj
      rw [trD_t hj]
      have e : (ab_sC M 3 r 0 15 0 0 n).1 15 0 j = M.1 3 r j := by
        show (if 15 = 15 ∧ 0 = 0 ∧ 0 ≤ j ∧ j < 0 + n then M.1 3 r (0 + (j - 0)) else M.1 15 0 j) = _
        rw [if_pos ⟨rfl, rfl, by omega, by omega⟩, Nat.sub_zero, Nat.zero_add]
      exact e.trans (t3 j hj).1
  · intro j hj
    rw [Nat.zero_add]
    unfold trM
    by_cases j5 : j = 5
    · subst j5
      rw [sI_eq]
      rfl
    · rw [sI_k j5, sR_eq]
      unfold cpf
      by_cases q : 46 ≤ j ∧ j < 46 + n
      · rw [if_pos q, Nat.zero_add]
        have := trD_t (D := D) (t := t) (n := n) (k := j - 46) (by omega)
        rw [show 46 + (j - 46) = j by omega] at this
        rw [this]
      · rw [if_neg q]
        by_cases j4 : j = 4
        · subst j4
          rw [sI_eq]
          rfl
        · rw [sI_k j4, trD_o j4 j5 (by omega)]
          exact nw hn hj
  · have hk2 := kp_cong (trD_eqL (t := t) (n := n)) hk
    intro i hi
    obtain ⟨a1, b1⟩ := hk2 i hi
    refine ⟨a1, b1.imp (fun q => q) (fun q => ?_)⟩
    obtain ⟨q1, q2, F, q3, q4, q5, q6⟩ := q
    refine ⟨q1, q2, F, q3, q4, crC_fr (M := M) ⟨?_, ?_, rfl, rfl, rfl⟩ q5, q6⟩
    · show (ab_sI (ab_sI (ab_sC M 3 r 0 15 0 0 n) 14 0 1 (nI n)) 14 0 2 (nI 0)).1 14 (1 + i) = _
      rw [sI_i (by omega), sI_i (by omega)]
      rfl
    · exact (ab_sC_other (M := M) (g := 3) (i := r) (a := 0) (h := 15) (j := 0) (b := 0) (n := n) 15 (1 + i) (by omega)).1
theorem op_trail {x : Int32} (hR : Rel M) : OpI (d + 3) 117 208 [vi x] M := by
  obtain ⟨D, hw, hw2, hw3, hl, hc, hn, hk⟩ := Rel_D hR
  have hb0 := hw.1.1
  rcases ix_cases x (n := 6) (by omega) with ⟨r, hr, rfl⟩ | hno
  · by_cases h0 : D 0 = 0
    · refine ab_Call_nr (caX9_trail rfl (atX9_trail (c_hasR1 hr (c_isBare1 hl h0 ?_))))
      refine ab_Call_nr (caX10_trail rfl (atX10_trail (m_isRow1 hr ?_)))
      exact And.intro (fun q => absurd (by rw [nw hn (by omega), h0]) q) (fun _ => ⟨⟨_, rfl, rfl⟩, hR⟩)
    · rcases rw_cases hR hr with ⟨a, b⟩ | ⟨n, hn40, a, b, hcc⟩
      · refine ab_Call_nr (caX9_trail rfl (atX9_trail (c_hasR1 hr (c_isBare0 hl (by omega) hb0 (c_isThRm hr a ?_)))))
        refine c_refuse (by omega) (by omega) ?_
        refine ab_Call_nr (caX10_trail rfl (atX10_trail (m_isRow1 hr ?_)))
        refine And.intro (fun _ => ?_) (fun q => absurd ((nw hn (by omega)).symm.trans q) (nI_ne0 (by omega) (by omega)))
        refine ix_i r rfl hr ?_
        refine And.intro (fun q => absurd q (i_not_le (neg_m1 b))) (fun _ => ?_)
        refine m_found (by omega) (by omega) ?_
        exact ⟨⟨_, rfl, rfl⟩, Rel_rf 1 hR⟩
      · by_cases htr : ∃ t, isTr D (M.1 3 r) n t
        · obtain ⟨t, ht⟩ := htr
          refine C_trail hr hn40 a hl hw.1 (by omega) ht ?_
          refine M_trail (D := D) (t := t) hr hn40 b (fun k hk => hn k hk) hw.1 (by omega) (isTr_cong hcc ht) ?_
          exact ⟨⟨_, rfl, rfl⟩, Rel_trail hR hw (by omega) hl hc hn hk ht⟩
        · refine ab_Call_nr (caX9_trail rfl (atX9_trail (c_hasR1 hr (c_isBare0 hl (by omega) hb0 (c_isThR hr hn40 a ?_)))))
          refine ix_i r rfl hr (ix_i r rfl hr ?_)
          rw [a]
          refine c_isTrail hr hn40 hl hw.1 (by omega) (fun t ht => absurd ⟨t, ht⟩ htr) (fun _ => ?_)
          refine c_refuse (by omega) (by omega) ?_
          refine ab_Call_nr (caX10_trail rfl (atX10_trail (m_isRow1 hr ?_)))
          refine And.intro (fun _ => ?_) (fun q => absurd ((nw hn (by omega)).symm.trans q) (nI_ne0 (by omega) (by omega)))
          refine ix_i r rfl hr ?_
          refine And.intro (fun _ => ?_) (fun q => absurd q (neg_no b (by omega)))
          refine m_isTrail (D := D) hr hn40 b (fun k hk => hn k hk) hw.1 (by omega) (fun t ht => absurd ⟨t, isTr_cong (fun k hk => (hcc k hk).symm) ht⟩ htr) (fun _ => ?_)
          refine m_found (by omega) (by omega) ?_
          exact ⟨⟨_, rfl, rfl⟩, Rel_rf 3 hR⟩
  · refine ab_Call_nr (caX9_trail rfl (atX9_trail (c_hasR0 hno ?_)))
    refine ab_Call_nr (caX10_trail rfl (atX10_trail (m_isRow0 hno ?_)))
    exact ⟨⟨_, rfl, rfl⟩, hR⟩
end Trail2
