/-! ===== bits of places; the trail ===== -/
theorem fb_holes : ∀ (m n : Nat) (f : Nat → Nat), (∀ i, i < n → f i < m) → (∀ i j, i < j → j < n → f i ≠ f j) → n ≤ m := by
  intro m
  induction m with
  | zero =>
    intro n f h1 _
    rcases Nat.eq_zero_or_pos n with h | h
    · omega
    · exact absurd (h1 0 h) (Nat.not_lt_zero _)
  | succ m ih =>
    intro n f h1 h2
    by_cases hx : ∃ i, i < n ∧ f i = m
    · obtain ⟨a, ha, hfa⟩ := hx
      have hg := ih (n - 1) (fun i => if i < a then f i else f (i + 1)) (by
        intro i hi
        by_cases q : i < a
        · simp only [if_pos q]
          have b1 := h1 i (by omega)
          have b2 := h2 i a q ha
          omega
        · simp only [if_neg q]
          have b1 := h1 (i + 1) (by omega)
          have b2 := h2 a (i + 1) (by omega) (by omega)
          omega) (by
        intro i j hij hj
        by_cases q : i < a
        · by_cases r : j < a
          · simp only [if_pos q, if_pos r]
            exact h2 i j hij (by omega)
          · simp only [if_pos q, if_neg r]
            exact h2 i (j + 1) (by omega) (by omega)
        · have r : ¬ j < a := by omega
          simp only [if_neg q, if_neg r]
          exact h2 (i + 1) (j + 1) (by omega) (by omega))
      omega
    · have hg := ih n f (fun i hi => by
        have b1 := h1 i hi
        have b2 : f i ≠ m := fun e => hx ⟨i, hi, e⟩
        omega) h2
      omega
theorem wb_tb (w p : Nat) : wb w p = if w.testBit p then 1 else 0 := by
  unfold wb
  rw [Nat.testBit_eq_decide_div_mod_eq]
  by_cases h : w / 2 ^ p % 2 = 1
  · simp [h]
  · simp only [h, decide_false]
    have : w / 2 ^ p % 2 = 0 := by omega
    simp [this]
theorem wb_or (a p q : Nat) : wb (a ||| 2 ^ p) q = if q = p then 1 else wb a q := by
  rw [wb_tb, wb_tb, Nat.testBit_or, Nat.testBit_two_pow]
  by_cases h : q = p
  · subst h
    simp
  · have h2 : ¬ p = q := fun e => h e.symm
    simp [h, h2]
theorem or_lt {a p n : Nat} (ha : a < 2 ^ n) (hp : p < n) : a ||| 2 ^ p < 2 ^ n := Nat.or_lt_two_pow ha (Nat.pow_lt_pow_right (by omega) hp)
theorem wb_0 (p : Nat) : wb 0 p = 0 := by simp [wb]
/-- a row's first n ints are a trail -/
def isTr (D : Nat → Nat) (f : Nat → Int32) (n : Nat) (t : Nat → Nat) : Prop := 2 ≤ n ∧ n ≤ 7 ∧ (∀ k, k < n → f k = nI (t k) ∧ t k < D 0) ∧ t 0 = 0 ∧ t (n - 1) + 1 = D 0 ∧ (∀ j k, j < k → k < n → t j ≠ t k) ∧ ∀ k, k + 1 < n → 0 < pm D (t k) (t (k + 1))
section Trail
variable {d : Nat} {M : ab_M} {K : ab_K} {D : Nat → Nat}
theorem c_isTrail {r n : Nat} (hr : r < 6) (hn : n ≤ 40) (hl : ldC M 0 D) (hL : wfL D) (h2 : 2 ≤ D 0) (h1 : ∀ t, isTr D (M.1 3 r) n t → K (some (.inl 1)) M) (h0 : (∀ t, ¬ isTr D (M.1 3 r) n t) → K (some (.inl 0)) M) : ab_Call (d + 1) 57 [vr 9 0, vr 3 r, vi (nI n)] M K := by
  refine caX3_isTrail rfl (atX3_isTrail ?_)
  have hb0 := hL.1
  refine And.intro (fun q => h0 (fun t w => by have := nlt_use q; have := w.1; omega)) (fun q => ?_)
  have hn2 := nle_use q
  refine And.intro (fun q => h0 (fun t w => ?_)) (fun q => ?_)
  · rw [hl.1] at q
    have := nlt_use q
    exact absurd (fb_holes (D 0) n t (fun i hi => (w.2.2.1 i hi).2) w.2.2.2.2.2.1) (by omega)
  rw [hl.1] at q
  have hnD := nle_use q
  refine And.intro (fun q => h0 (fun t w => q (by rw [(w.2.2.1 0 (by omega)).1, w.2.2.2.1]))) (fun q0 => ?_)
  refine ix_i (n - 1) (by rw [pk_sub (by omega)]) (show n - 1 < 40 by omega) ?_
  refine caX3_inn rfl (atX3_inn ?_)
  have einn : M.1 9 0 0 - nI 1 = nI (D 0 - 1) := by rw [hl.1, pk_sub (by omega)]
  refine And.intro (fun q => ?_) (fun q => h0 (fun t w => q (by rw [(w.2.2.1 (n - 1) (by omega)).1, einn]; congr 1; have := w.2.2.2.2.1; omega)))
  rw [einn] at q
  have key : ∀ k, k ≤ n → 1 ≤ k → ∀ (b : Nat) (t : Nat → Nat), b < 128 → (∀ p, p < 7 → (wb b p = 1 ↔ ∃ j, j < k ∧ t j = p)) → (∀ j, j < k → M.1 3 r j = nI (t j) ∧ t j < D 0) → t 0 = 0 → (∀ i j, i < j → j < k → t i ≠ t j) → (∀ j, j + 1 < k → 0 < pm D (t j) (t (j + 1))) →
      ab_At miX3_isTrail (d + 1) 38 [some (vr 9 0), some (vr 3 r), some (vi (nI n)), some (vi (nI b)), some (vi (nI k))] [] M K := by
    refine up_ind fun k hk ih hk1 b t hb hm ht ht0 hd hp => ?_
    refine atX3_isTrail ?_
    refine And.intro (fun h => ?_) (fun h => ?_)
    · have : k = n := by have := nle_use h; omega
      subst this
      refine h1 t ⟨hn2, by omega, ht, ht0, ?_, hd, hp⟩
      have e := (ht (k - 1) (by omega)).1
      rw [q] at e
      have := (ht (k - 1) (by omega)).2
      have := neq_use e
      omega
    · have hkn := nlt_use h
      refine ix_i k rfl (show k < 40 by omega) ?_
      have nope : (∀ p, p < D 0 → M.1 3 r k = nI p → wb b p = 1 ∨ pm D (t (k - 1)) p = 0) → ∀ t', ¬ isTr D (M.1 3 r) n t' := by
        intro hno t' w
        have same : ∀ j, j < k → t' j = t j := fun j hj => by
          have e1 := (w.2.2.1 j (by omega)).1
          have e2 := (ht j hj).1
          rw [e1] at e2
          have := (w.2.2.1 j (by omega)).2
          have := (ht j hj).2
          exact neq_use e2
        obtain ⟨e1, e2⟩ := w.2.2.1 k hkn
        rcases hno (t' k) e2 e1 with z | z
        · obtain ⟨j, hj, ej⟩ := (hm (t' k) (by omega)).mp z
          exact w.2.2.2.2.2.1 j k hj hkn (by rw [same j hj, ej])
        · have := w.2.2.2.2.2.2 (k - 1) (by omega)
          rw [same (k - 1) (by omega), show k - 1 + 1 = k by omega, z] at this
          omega
      rcases ix_cases (M.1 3 r k) (n := D 0) (by omega) with ⟨p, hp0, ep⟩ | hno
      · rw [ep]
        refine c_hasPlace1 hl hp0 hb0 ?_
        refine And.intro (fun z => h0 (nope (fun p' hp' e' => ?_))) (fun z => ?_)
        · rw [ep] at e'
          have : p = p' := neq_use e'
          subst this
          rw [nI_bit (by omega) (by omega)] at z
          rcases wb_01 b p with y | y
          · rw [y] at z
            exact absurd rfl z
          · exact Or.inl y
        · rw [nI_bit (by omega) (by omega)] at z
          have hw0 : wb b p = 0 := by
            rcases wb_01 b p with y | y
            · exact y
            · rw [y] at z
              exact absurd z (by decide)
          refine ix_i (k - 1) (by rw [pk_sub (by omega)]) (show k - 1 < 40 by omega) ?_
          obtain ⟨e1, e2⟩ := ht (k - 1) (by omega)
          rw [e1]
          by_cases hpp : 0 < pm D (t (k - 1)) p
          · refine c_hasPath1 hl hL (by omega) (by omega) hpp ?_
            have hor : nI b ||| ab_shl (nI 1) (nI p) = nI (b ||| 2 ^ p) := by rw [nI_shl1 (by omega), nI_or]
            have := ih hkn (by omega) (b ||| 2 ^ p) (fun j => if j = k then p else t j) (or_lt (n := 7) hb (by omega)) (fun p' hp' => ?_) (fun j hj => ?_) (by rw [if_neg (by omega)]; exact ht0) (fun i j hij hj => ?_) (fun j hj => ?_)
            · rw [← nI_1, ← hor] at this
              exact this
            · rw [wb_or]
              by_cases y : p' = p
              · subst y
                rw [if_pos rfl]
                exact ⟨fun _ => ⟨k, by omega, if_pos rfl⟩, fun _ => rfl⟩
              · rw [if_neg y, hm p' hp']
                constructor
                · rintro ⟨j, hj, e⟩
                  exact ⟨j, by omega, by rw [if_neg (by omega)]; exact e⟩
                · rintro ⟨j, hj, e⟩
                  by_cases jk : j = k
                  · rw [if_pos jk] at e
                    exact absurd e.symm y
                  · rw [if_neg jk] at e
                    exact ⟨j, by omega, e⟩
            · by_cases jk : j = k
              · subst jk
                rw [if_pos rfl]
                exact ⟨ep, hp0⟩
              · rw [if_neg jk]
                exact ht j (by omega)
            · rw [if_neg (show ¬ i = k by omega)]
              by_cases jk : j = k
              · rw [if_pos jk]
                intro e
                have := (hm p (by omega)).mpr ⟨i, by omega, e⟩
                omega
              · rw [if_neg jk]
                exact hd i j hij (by omega)
            · rw [if_neg (show ¬ j = k by omega)]
              by_cases jk : j + 1 = k
              · rw [if_pos jk, show j = k - 1 by omega]
                exact hpp
              · rw [if_neg jk]
                exact hp j (by omega)
          · refine c_hasPath0 hl (by omega) (by omega) (by omega) ?_
            exact h0 (nope (fun p' hp' e' => by
              rw [ep] at e'
              have : p = p' := neq_use e'
              subst this
              exact Or.inr (by omega)))
      · refine c_hasPlace0 hl hb0 hno ?_
        exact h0 (nope (fun p hp e => absurd e (hno p hp)))
  refine key 1 (by omega) (by omega) 1 (fun _ => 0) (by omega) (fun p hp => ?_) (fun j hj => ⟨by rw [show j = 0 by omega]; exact q0, by omega⟩) rfl (fun i j hij hj => by omega) (fun j hj => by omega)
  have := wb_or 0 0 p
  rw [Nat.zero_or, wb_0] at this
  rw [show (1 : Nat) = 2 ^ 0 by rfl, this]
  constructor
  · intro h
    refine ⟨0, by omega, ?_⟩
    by_cases e : p = 0
    · exact e.symm
    · rw [if_neg e] at h; omega
  · rintro ⟨j, -, e⟩
    rw [if_pos e.symm]
end Trail
