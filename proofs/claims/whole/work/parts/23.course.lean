/-! ===== the class: Land, Course, Kinds ===== -/
section CourseC
variable {d c l : Nat} {M : ab_M} {K : ab_K} {D : Nat → Nat}
theorem c_hasPlace1 {j : Nat} (hl : ldC M l D) (hj : j < D 0) (hb : D 0 ≤ 7) (hK : K (some (.inl 1)) M) : ab_Call d 50 [vr 9 l, vi (nI j)] M K := by
  refine caX3_hasPlace rfl (atX3_hasPlace ?_)
  refine And.intro (fun h => absurd h (nI_pos (by omega))) (fun _ => ?_)
  exact And.intro (fun h => absurd h (by rw [hl.1]; exact nI_ge hj (by omega))) (fun _ => hK)
theorem c_hasPlace0 {x : Int32} (hl : ldC M l D) (hb : D 0 ≤ 7) (hx : ∀ j, j < D 0 → x ≠ nI j) (hK : K (some (.inl 0)) M) : ab_Call d 50 [vr 9 l, vi x] M K := by
  refine caX3_hasPlace rfl (atX3_hasPlace ?_)
  refine And.intro (fun _ => hK) (fun h => ?_)
  exact And.intro (fun _ => hK) (fun h2 => absurd h2 (fun h2 => (ix_no (by omega) hx).elim (fun q => i_lt_le q h) (fun q => i_lt_le (by rw [hl.1] at h2; exact h2) q)))
theorem c_hasHound1 {j : Nat} (hl : ldC M l D) (hj : j < D 1) (hb : D 1 ≤ 4) (hK : K (some (.inl 1)) M) : ab_Call d 51 [vr 9 l, vi (nI j)] M K := by
  refine caX3_hasHound rfl (atX3_hasHound ?_)
  refine And.intro (fun h => absurd h (nI_pos (by omega))) (fun _ => ?_)
  exact And.intro (fun h => absurd h (by rw [hl.2.1]; exact nI_ge hj (by omega))) (fun _ => hK)
theorem c_hasHound0 {x : Int32} (hl : ldC M l D) (hb : D 1 ≤ 4) (hx : ∀ j, j < D 1 → x ≠ nI j) (hK : K (some (.inl 0)) M) : ab_Call d 51 [vr 9 l, vi x] M K := by
  refine caX3_hasHound rfl (atX3_hasHound ?_)
  refine And.intro (fun _ => hK) (fun h => ?_)
  exact And.intro (fun _ => hK) (fun h2 => absurd h2 (fun h2 => (ix_no (by omega) hx).elim (fun q => i_lt_le q h) (fun q => i_lt_le (by rw [hl.2.1] at h2; exact h2) q)))
theorem c_isBare1 (hl : ldC M l D) (h0 : D 0 = 0) (hK : K (some (.inl 1)) M) : ab_Call d 49 [vr 9 l] M K := by
  refine caX3_isBare rfl (atX3_isBare ?_)
  exact And.intro (fun h => absurd (hl.1.trans (by rw [h0])) h) (fun _ => hK)
theorem c_isBare0 (hl : ldC M l D) (h0 : 0 < D 0) (hb : D 0 ≤ 7) (hK : K (some (.inl 0)) M) : ab_Call d 49 [vr 9 l] M K := by
  refine caX3_isBare rfl (atX3_isBare ?_)
  exact And.intro (fun _ => hK) (fun h => absurd (hl.1.symm.trans h) (nI_ne0 h0 (by omega)))
theorem c_hasPath1 {x y : Nat} (hl : ldC M l D) (hL : wfL D) (hx : x < 7) (hy : y < 7) (hp : 0 < pm D x y) (hK : K (some (.inl 1)) M) : ab_Call d 52 [vr 9 l, vi (nI x), vi (nI y)] M K := by
  refine caX3_hasPath rfl (atX3_hasPath ?_)
  refine ix_i x rfl hx (ix_i y rfl hy ?_)
  have e := hl.2.2.2.2 x hx y hy
  have := pm_le hL x y
  exact And.intro (fun h => absurd h (by rw [show M.1 12 (7 * l + x) y = _ from e]; exact nI_nle hp (by omega))) (fun _ => hK)
theorem c_hasPath0 {x y : Nat} (hl : ldC M l D) (hx : x < 7) (hy : y < 7) (hp : pm D x y = 0) (hK : K (some (.inl 0)) M) : ab_Call d 52 [vr 9 l, vi (nI x), vi (nI y)] M K := by
  refine caX3_hasPath rfl (atX3_hasPath ?_)
  refine ix_i x rfl hx (ix_i y rfl hy ?_)
  have e := hl.2.2.2.2 x hx y hy
  rw [hp] at e
  exact And.intro (fun _ => hK) (fun h => absurd h (by rw [show M.1 12 (7 * l + x) y = _ from e]; exact nI_pos (by omega)))
theorem c_isLaid1 (hc : crC M c D) (hb : bnd D) (h0 : 0 < D 4) (hK : K (some (.inl 1)) M) : ab_Call d 26 [vr 14 c] M K := by
  refine caX1_isLaid rfl (atX1_isLaid ?_)
  have := hb.2.1
  exact And.intro (fun h => absurd h (by rw [hc.2.1]; exact nI_nle h0 (by omega))) (fun _ => hK)
theorem c_isLaid0 (hc : crC M c D) (h0 : D 4 = 0) (hK : K (some (.inl 0)) M) : ab_Call d 26 [vr 14 c] M K := by
  refine caX1_isLaid rfl (atX1_isLaid ?_)
  exact And.intro (fun _ => hK) (fun h => absurd h (by rw [hc.2.1, h0]; exact nI_pos (by omega)))
theorem c_isFull1 (hc : crC M c D) (h8 : D 5 = 8) (hK : K (some (.inl 1)) M) : ab_Call d 27 [vr 14 c] M K := by
  refine caX1_isFull rfl (atX1_isFull ?_)
  exact And.intro (fun h => absurd h (by rw [hc.2.2.1, h8]; exact nI_nlt (by omega) (by omega))) (fun _ => hK)
theorem c_isFull0 (hc : crC M c D) (h8 : D 5 < 8) (hK : K (some (.inl 0)) M) : ab_Call d 27 [vr 14 c] M K := by
  refine caX1_isFull rfl (atX1_isFull ?_)
  exact And.intro (fun _ => hK) (fun h => absurd h (by rw [hc.2.2.1]; exact nI_ge h8 (by omega)))
theorem c_last (hc : crC M c D) (h0 : 0 < D 4) (hK : K (some (vi (nI (D 4 - 1)))) M) : ab_Call d 28 [vr 14 c] M K := by
  refine caX1_last rfl (atX1_last ?_)
  rw [← pk_sub (by omega), ← hc.2.1] at hK
  exact hK
theorem c_indexOf {X : Nat} (hc : crC M c D) (hb : bnd D) (hX : X < 2 ^ 31) (h1 : ∀ k, k < D 4 → D (46 + k) = X → (∀ j, j < k → D (46 + j) ≠ X) → K (some (vi (nI k))) M) (h0 : (∀ k, k < D 4 → D (46 + k) ≠ X) → K (some (.inl (-9))) M) : ab_Call d 29 [vr 14 c, vi (nI X)] M K := by
  refine caX1_indexOf rfl (atX1_indexOf ?_)
  obtain ⟨b3, b4, b5, b6, b7, b8⟩ := hb
  have key : ∀ j, j ≤ D 4 → (∀ i, i < j → D (46 + i) ≠ X) → ab_At miX1_indexOf d 2 [some (vr 14 c), some (vi (nI X)), some (vi (nI j))] [] M K := by
    refine up_ind fun j hj ih hno => ?_
    refine atX1_indexOf ?_
    refine And.intro (fun h => ?_) (fun h => ?_)
    · rw [hc.2.1] at h
      have : j = D 4 := by have := nle_use h; omega
      subst this
      exact h0 hno
    · rw [hc.2.1] at h
      have hjn := nlt_use h
      refine ix_i j rfl (show j < 7 by omega) ?_
      have e := hc.2.2.2.2.1 j hjn
      have hbj := b7 j hjn
      refine And.intro (fun q => ?_) (fun q => ?_)
      · rw [e] at q
        have := ih hjn (fun i hi => by rcases Nat.lt_or_ge i j with w | w; exact hno i w; rw [show i = j by omega]; exact nne_use q)
        rw [← nI_1] at this
        exact this
      · rw [e] at q
        exact h1 j hjn (neq_use q) hno
  exact key 0 (Nat.zero_le _) (fun i hi => absurd hi (by omega))
theorem c_endBetween {X Y : Nat} (hc : crC M c D) (hb : bnd D) (hX : X < 2 ^ 31) (hY : Y < 2 ^ 31) (h1 : ∀ e, e < D 5 → D (53 + e) = X → D (61 + e) = Y → (∀ j, j < e → ¬ (D (53 + j) = X ∧ D (61 + j) = Y)) → K (some (vi (nI e))) M) (h0 : (∀ e, e < D 5 → ¬ (D (53 + e) = X ∧ D (61 + e) = Y)) → K (some (.inl (-9))) M) : ab_Call d 30 [vr 14 c, vi (nI X), vi (nI Y)] M K := by
  refine caX1_endBetween rfl (atX1_endBetween ?_)
  obtain ⟨b3, b4, b5, b6, b7, b8⟩ := hb
  have key : ∀ j, j ≤ D 5 → (∀ i, i < j → ¬ (D (53 + i) = X ∧ D (61 + i) = Y)) → ab_At miX1_endBetween d 2 [some (vr 14 c), some (vi (nI X)), some (vi (nI Y)), some (vi (nI j))] [] M K := by
    refine up_ind fun j hj ih hno => ?_
    refine atX1_endBetween ?_
    refine And.intro (fun h => ?_) (fun h => ?_)
    · rw [hc.2.2.1] at h
      have : j = D 5 := by have := nle_use h; omega
      subst this
      exact h0 hno
    · rw [hc.2.2.1] at h
      have hjn := nlt_use h
      obtain ⟨e1, e2, e3⟩ := hc.2.2.2.2.2 j hjn
      obtain ⟨g1, g2, g3⟩ := b8 j hjn
      have go : ¬ (D (53 + j) = X ∧ D (61 + j) = Y) → ab_At miX1_endBetween d 2 [some (vr 14 c), some (vi (nI X)), some (vi (nI Y)), some (vi (nI j + nI 1))] [] M K := by
        intro q
        have := ih hjn (fun i hi => by rcases Nat.lt_or_ge i j with w | w; exact hno i w; rw [show i = j by omega]; exact q)
        rw [← nI_1] at this
        exact this
      refine ix_i j rfl (show j < 8 by omega) ?_
      refine And.intro (fun q => go (fun w => ?_)) (fun q => ?_)
      · rw [e1, w.1] at q
        exact q rfl
      · rw [e1] at q
        refine ix_i j rfl (show j < 8 by omega) ?_
        refine And.intro (fun q2 => go (fun w => ?_)) (fun q2 => ?_)
        · rw [e2, w.2] at q2
          exact q2 rfl
        · rw [e2] at q2
          exact h1 j hjn (neq_use q) (neq_use q2) hno
  exact key 0 (Nat.zero_le _) (fun i hi => absurd hi (by omega))
theorem c_admits {x y : Nat} (hl : ldC M l D) (hc : crC M c D) (hb : bnd D) (hL : wfL D) (hd : ∀ i j, i < j → j < D 4 → D (46 + i) ≠ D (46 + j)) (hx : x < 7) (hy : y < 7) (h1 : adm D x y → K (some (.inl 1)) M) (h0 : ¬ adm D x y → K (some (.inl 0)) M) : ab_Call (d + 1) 31 [vr 14 c, vr 9 l, vi (nI x), vi (nI y)] M K := by
  refine caX1_admits rfl (atX1_admits ?_)
  have hb' := hb
  obtain ⟨b3, b4, b5, b6, b7, b8⟩ := hb'
  refine c_indexOf hc hb (by omega) (fun k hk hkx _ => ?_) (fun hno => ?_)
  · have uniq : adm D x y → k + 1 < D 4 ∧ 0 < pm D x y ∧ D (46 + k + 1) ≠ y ∧ ∀ e, e < D 5 → ¬ (D (53 + e) = x ∧ D (61 + e) = y) := by
      rintro ⟨j, j1, j2, j3, j4, j5⟩
      have : j = k := by
        rcases Nat.lt_trichotomy j k with q | q | q
        · exact absurd (j2.trans hkx.symm) (hd j k q hk)
        · exact q
        · exact absurd (hkx.trans j2.symm) (hd k j q (by omega))
      subst this
      exact ⟨j1, j3, j4, j5⟩
    refine And.intro (fun q => absurd q (fun q => by
      have := congrArg Int32.toInt q
      rw [nI_toInt (by omega)] at this
      exact absurd this (by show ¬ (k : Int) = -9; omega))) (fun _ => ?_)
    refine c_last hc (by omega) ?_
    refine And.intro (fun q => h0 (fun w => by have := nle_use q; have := (uniq w).1; omega)) (fun q => ?_)
    have hk1 : k + 1 < D 4 := by have := nlt_use q; omega
    by_cases hp : 0 < pm D x y
    · refine c_hasPath1 hl hL hx hy hp ?_
      refine ix_i (k + 1) (by simp only [nI_add]) (show k + 1 < 7 by omega) ?_
      have e : M.1 15 c (k + 1) = nI (D (46 + k + 1)) := hc.2.2.2.2.1 (k + 1) hk1
      have hbk : D (46 + k + 1) < 7 := b7 (k + 1) hk1
      refine And.intro (fun q => h0 (fun w => ?_)) (fun q => ?_)
      · rw [e] at q
        exact (uniq w).2.2.1 (neq_use q)
      · rw [e] at q
        refine c_endBetween hc hb (by omega) (by omega) (fun e he e1 e2 _ => ?_) (fun hno => ?_)
        · refine And.intro (fun _ => h0 (fun w => (uniq w).2.2.2 e he ⟨e1, e2⟩)) (fun q => ?_)
          have := congrArg Int32.toInt q
          rw [nI_toInt (by omega)] at this
          exact absurd this (by show ¬ (e : Int) = -9; omega)
        · exact h1 ⟨k, hk1, hkx, hp, nne_use q, hno⟩
    · refine c_hasPath0 hl hx hy (by omega) ?_
      exact h0 (fun w => hp (uniq w).2.1)
  · exact h0 (fun w => by obtain ⟨k, k1, k2, -⟩ := w; exact hno k (by omega) k2)
theorem c_isWindy {k : Nat} (hc : crC M c D) (hb : bnd D) (hk : k < 7) (h1 : k + 1 < D 4 → wb (D 77) (D (46 + k)) = 1 → K (some (.inl 1)) M) (h0 : ¬ (k + 1 < D 4 ∧ wb (D 77) (D (46 + k)) = 1) → K (some (.inl 0)) M) : ab_Call d 32 [vr 14 c, vi (nI k)] M K := by
  refine caX1_isWindy rfl (atX1_isWindy ?_)
  obtain ⟨b3, b4, b5, b6, b7, b8⟩ := hb
  refine And.intro (fun h => ?_) (fun h => ?_)
  · rw [hc.2.1, nI_sub1 (by omega) (by omega)] at h
    exact h0 (fun w => by omega)
  · rw [hc.2.1, nI_sub1_lt (by omega) (by omega)] at h
    refine ix_i k rfl hk ?_
    have e := hc.2.2.2.2.1 k (by omega)
    have hbk := b7 k (by omega)
    have e2 : ab_shr (M.1 14 c 3) (M.1 15 c k) &&& nI 1 = nI (wb (D 77) (D (46 + k))) := by rw [hc.2.2.2.1, e, nI_bit (by omega) (by omega)]
    refine And.intro (fun q => ?_) (fun q => ?_)
    · rw [e2] at q
      refine h0 (fun w => ?_)
      rw [w.2] at q
      exact absurd q (by decide)
    · rw [e2] at q
      rcases wb_01 (D 77) (D (46 + k)) with w | w
      · rw [w] at q
        exact absurd rfl q
      · exact h1 h w
theorem c_isA {a b : Nat} (ha : a ≤ 5) (hb : b ≤ 5) (h1 : (a = b ∨ b = 0 ∨ (a = 4 ∧ b = 1) ∨ (a = 5 ∧ b = 2)) → K (some (.inl 1)) M) (h0 : ¬ (a = b ∨ b = 0 ∨ (a = 4 ∧ b = 1) ∨ (a = 5 ∧ b = 2)) → K (some (.inl 0)) M) : ab_Call d 44 [vi (nI a), vi (nI b)] M K := by
  refine caX2_isA rfl (atX2_isA ?_)
  refine And.intro (fun q => h1 (Or.inl (neq_use q))) (fun q => ?_)
  have q := nne_use q
  refine And.intro (fun q2 => h1 (Or.inr (Or.inl (neq_use q2)))) (fun q2 => ?_)
  have q2 := nne_use q2
  refine And.intro (fun q3 => ?_) (fun q3 => ?_)
  · have q3 := nne_use q3
    refine And.intro (fun q4 => h0 (by have := nne_use q4; omega)) (fun q4 => ?_)
    have q4 := neq_use q4
    exact And.intro (fun q5 => h0 (by have := nne_use q5; omega)) (fun q5 => h1 (by have := neq_use q5; omega))
  · have q3 := neq_use q3
    refine And.intro (fun q4 => h1 (by have := neq_use q4; omega)) (fun q4 => ?_)
    have q4 := nne_use q4
    refine And.intro (fun q5 => h0 (by have := nne_use q5; omega)) (fun q5 => ?_)
    exact absurd (neq_use q5) (by omega)
theorem c_pace {kd m : Nat} (hk : kd ≤ 5) (hm : m ≤ 9) (hK : K (some (vi (nI (pce kd m)))) M) : ab_Call (d + 1) 45 [vi (nI kd), vi (nI m)] M K := by
  refine ab_Call_nr (caX2_pace rfl (atX2_pace ?_))
  refine c_isA hk (by omega) (fun q => ?_) (fun q => ?_)
  · refine And.intro (fun w => absurd w (by decide)) ?_
    have e : (nI m + nI 1) / nI 2 = nI (pce kd m) := by
      rw [nI_add, pk_div (by omega) (by omega) (by omega)]
      unfold pce
      rw [if_pos (by omega)]
    rw [← e] at hK
    exact hK
  · refine And.intro (fun w => ?_) (fun w => ?_)
    · have w := nne_use w
      refine And.intro (fun w2 => ?_) (fun w2 => ?_)
      · have w2 := nne_use w2
        have e : m = pce kd m := by
          unfold pce
          rw [if_neg (by omega), if_neg (by omega), if_neg (by omega)]
        rw [← e] at hK
        exact hK
      · have w2 := neq_use w2
        have e : nI 2 * nI m = nI (pce kd m) := by
          rw [pk_mul]
          unfold pce
          rw [if_neg (by omega), if_pos (by omega)]
        rw [← e] at hK
        exact hK
    · have w := neq_use w
      have e : nI 2 * nI m + nI 1 = nI (pce kd m) := by
        rw [pk_mul, nI_add]
        unfold pce
        rw [if_neg (by omega), if_neg (by omega), if_pos (by omega)]
      rw [← e] at hK
      exact hK
theorem c_nextPath {k : Nat} (hl : ldC M l D) (hc : crC M c D) (hb : bnd D) (hk : k + 1 < D 4) (hK : K (some (vi (nI (sg D k)))) M) : ab_Call d 37 [vr 14 c, vr 9 l, vi (nI k)] M K := by
  refine caX1_nextPath rfl (atX1_nextPath ?_)
  obtain ⟨b3, b4, b5, b6, b7, b8⟩ := hb
  refine ix_i k rfl (show k < 7 by omega) ?_
  refine ix_i (D (46 + k)) (hc.2.2.2.2.1 k (by omega)) (b7 k (by omega)) ?_
  refine ix_i (k + 1) (by simp only [nI_add]) (show k + 1 < 7 by omega) ?_
  refine ix_i (D (46 + k + 1)) (hc.2.2.2.2.1 (k + 1) hk) (b7 (k + 1) hk) ?_
  have e := hl.2.2.2.2 _ (b7 k (by omega)) _ (b7 (k + 1) hk)
  unfold sg at hK
  rw [show nI (pm D (D (46 + k)) (D (46 + k + 1))) = M.1 12 (7 * l + D (46 + k)) (D (46 + k + 1)) from e.symm] at hK
  exact hK
theorem c_haresAt {k : Nat} (hl : ldC M l D) (hc : crC M c D) (hb : bnd D) (hk : k = 0 ∨ k < D 4) (hK : K (some (vi (nI (hrs D k)))) M) : ab_Call (d + 1) 38 [vr 14 c, vr 9 l, vi (nI k)] M K := by
  refine caX1_haresAt rfl (atX1_haresAt ?_)
  have hb4 := hb.2.1
  have key : ∀ j, j ≤ k → ab_At miX1_haresAt (d + 1) 5 [some (vr 14 c), some (vr 9 l), some (vi (nI k)), some (vi (nI (hrs D j))), some (vi (nI j))] [] M K := by
    refine up_ind fun j hj ih => ?_
    refine atX1_haresAt ?_
    refine And.intro (fun h => ?_) (fun h => ?_)
    · have : j = k := by have := nle_use h; omega
      subst this
      exact hK
    · have hjn := nlt_use h
      refine c_nextPath hl hc hb (by omega) ?_
      have := ih hjn
      rw [← nI_1, show hrs D (j + 1) = hrs D j + sg D j from rfl, ← nI_add] at this
      exact this
  exact key 0 (Nat.zero_le _)
end CourseC
