/-! ===== a country's text: the reference's reading ===== -/
theorem nw58 {M : ab_M} {D : Nat → Nat} {k : Nat} (hn : nwM M 58 0 D) (hk : k < 78) : M.1 58 0 k = nI (D k) := by
  have := hn k hk
  rw [Nat.zero_add] at this
  exact this
theorem fig_cong {c c' : Nat → Int32} {n q lo hi : Nat} (h : ∀ k, k < n → c k = c' k) : fig c n q lo hi = fig c' n q lo hi := by
  unfold fig
  by_cases w : q < n
  · rw [h q w]
  · rw [if_neg (fun z => w z.1), if_neg (fun z => w z.1)]
theorem itm_cong {c c' : Nat → Int32} {n p : Nat} {D : Nat → Nat} {b : Bool} (h : ∀ k, k < n → c k = c' k) (hp : p < n) : itm c n D p b = itm c' n D p b := by
  unfold itm itO itH itP
  simp only [fig_cong h, h p hp]
theorem prs_cong {c c' : Nat → Int32} {n : Nat} (h : ∀ k, k < n → c k = c' k) : ∀ k D p b, prs c n k D p b = prs c' n k D p b
  | 0, _, _, _ => rfl
  | k + 1, D, p, b => by
    rw [prs, prs]
    by_cases q : n ≤ p
    · rw [if_pos q, if_pos q]
    · rw [if_neg q, if_neg q, h p (by omega), itm_cong h (by omega), prs_cong h k D (p + 1) b]
      cases itm c' n D p b with
      | inl z => rfl
      | inr x => exact congrArg (fun z => if c' p = nI 32 then prs c' n k D (p + 1) b else z) (prs_cong h k x.2 x.1 false)
theorem P_cong {c c' : Nat → Int32} {n p : Nat} {D : Nat → Nat} {b : Bool} (h : ∀ k, k < n → c k = c' k) : P c n D p b = P c' n D p b := prs_cong h _ _ _ _
/-- what reading changes there -/
def rfo (M M' : ab_M) : Prop := M'.2 = M.2 ∧ ∀ g i k, g ≠ 58 → ¬ (g = 49 ∧ i = 0 ∧ k = 13) → M'.1 g i k = M.1 g i k
theorem rfo_refl {M : ab_M} : rfo M M := ⟨rfl, fun _ _ _ _ _ => rfl⟩
theorem rfo_trans {M M' M'' : ab_M} (h : rfo M M') (h2 : rfo M' M'') : rfo M M'' := ⟨h2.1.trans h.1, fun g i k a b => (h2.2 g i k a b).trans (h.2 g i k a b)⟩
theorem rfo_58 {M M' : ab_M} {i k : Nat} {v : Int32} (h : rfo M M') : rfo M (ab_sI M' 58 i k v) := ⟨h.1, fun a b c q1 q2 => by rw [sI_g q1]; exact h.2 a b c q1 q2⟩
theorem rfo_13 {M M' : ab_M} {v : Int32} (h : rfo M M') : rfo M (ab_sI M' 49 0 13 v) := ⟨h.1, fun a b c q1 q2 => by rw [sI_ne q2]; exact h.2 a b c q1 q2⟩
theorem rfo_A {M M' : ab_M} (h : rfo M M') : frA M M' := ⟨fun g i k q => h.2 g i k (fun w => q (by unfold scr; omega)) (fun w => q (by unfold scr; omega)), fun g i k _ _ => by rw [h.1], fun g i k _ _ => by rw [h.1]⟩
/-- the text's signs -/
def tc (M : ab_M) (t : Nat) : Nat → Int32 := fun k => M.1 53 0 (80 * t + k)
theorem tc_fr {M M' : ab_M} {t : Nat} (h : rfo M M') : tc M' t = tc M t := by
  funext k
  exact h.2 53 0 _ (by omega) (by omega)
section Reads
variable {d t n : Nat} {M : ab_M} {K : ab_K} {D : Nat → Nat}
theorem m_pathOf58 {X Y : Nat} (hn : nwM M 58 0 D) (hL : wfL D) (hX : X < 7) (hY : Y < 7) (h1 : ∀ k, k < D 2 → pm D X Y = D (34 + k) → 0 < pm D X Y → K (some (vi (nI k))) M) (h0 : pm D X Y = 0 → K (some (vi (-1))) M) : ab_Call d 179 [vr 58 0, vi (nI X), vi (nI Y)] M K := by
  refine ab_Call_nr (caX10_pathOf rfl (atX10_pathOf ?_))
  obtain ⟨w0, w1, w2, w3, w4⟩ := hL
  have key : ∀ j, j ≤ D 2 → ∀ f : Int32, ((f = -1 ∧ pmr D X Y j = 0) ∨ ∃ k, k < j ∧ f = nI k ∧ pmr D X Y j = D (34 + k)) → ab_At miX10_pathOf d 5 [some (vr 58 0), some (vi (nI X)), some (vi (nI Y)), some (vi f), some (vi (nI j))] [] M (fun r M => K (r.map ab_nr) M) := by
    refine up_ind fun j hj ih f hf => ?_
    refine atX10_pathOf ?_
    refine And.intro (fun h => ?_) (fun h => ?_)
    · rw [nw58 hn (by omega)] at h
      have : j = D 2 := by have := nle_use h; omega
      subst this
      rcases hf with ⟨rfl, hf⟩ | ⟨k, hk, rfl, hf⟩
      · exact h0 hf
      · exact h1 k hk hf (by rw [show pm D X Y = _ from hf]; exact (w4 k hk).2.2.2.1)
    · rw [nw58 hn (by omega)] at h
      have hjn := nlt_use h
      obtain ⟨p1, p2, p3, p4, p5⟩ := w4 j hjn
      have yes : ((D (10 + j) = X ∧ D (22 + j) = Y) ∨ (D (10 + j) = Y ∧ D (22 + j) = X)) → ab_At miX10_pathOf d 5 [some (vr 58 0), some (vi (nI X)), some (vi (nI Y)), some (vi (nI j)), some (vi (nI j + nI 1))] [] M (fun r M => K (r.map ab_nr) M) := by
        intro q
        have := ih hjn (nI j) (Or.inr ⟨j, by omega, rfl, by rw [pmr, if_pos q]⟩)
        rw [← nI_1] at this
        exact this
      have no : ¬ ((D (10 + j) = X ∧ D (22 + j) = Y) ∨ (D (10 + j) = Y ∧ D (22 + j) = X)) → ab_At miX10_pathOf d 5 [some (vr 58 0), some (vi (nI X)), some (vi (nI Y)), some (vi f), some (vi (nI j + nI 1))] [] M (fun r M => K (r.map ab_nr) M) := by
        intro q
        have := ih hjn f (by
          rw [pmr, if_neg q]
          rcases hf with hf | ⟨k, hk, hf⟩
          · exact Or.inl hf
          · exact Or.inr ⟨k, by omega, hf⟩)
        rw [← nI_1] at this
        exact this
      have e1 : M.1 58 0 (10 + j) = nI (D (10 + j)) := nw58 hn (by omega)
      have e2 : M.1 58 0 (22 + j) = nI (D (22 + j)) := nw58 hn (by omega)
      refine ix_i (10 + j) (by simp only [nI_add]) (show 10 + j < 78 by omega) ?_
      refine And.intro (fun q => ?_) (fun q => ?_)
      · rw [e1] at q
        have q := nne_use q
        refine ix_i (10 + j) (by simp only [nI_add]) (show 10 + j < 78 by omega) ?_
        refine And.intro (fun q2 => ?_) (fun q2 => ?_)
        · rw [e1] at q2
          have q2 := nne_use q2
          exact no (by omega)
        · rw [e1] at q2
          have q2 := neq_use q2
          refine ix_i (22 + j) (by simp only [nI_add]) (show 22 + j < 78 by omega) ?_
          refine And.intro (fun q3 => ?_) (fun q3 => ?_)
          · rw [e2] at q3
            have q3 := nne_use q3
            exact no (by omega)
          · rw [e2] at q3
            have q3 := neq_use q3
            exact yes (by omega)
      · rw [e1] at q
        have q := neq_use q
        refine ix_i (22 + j) (by simp only [nI_add]) (show 22 + j < 78 by omega) ?_
        refine And.intro (fun q2 => ?_) (fun q2 => ?_)
        · rw [e2] at q2
          have q2 := neq_use q2
          exact yes (by omega)
        · rw [e2] at q2
          have q2 := nne_use q2
          refine ix_i (10 + j) (by simp only [nI_add]) (show 10 + j < 78 by omega) ?_
          refine And.intro (fun q3 => ?_) (fun q3 => ?_)
          · rw [e1] at q3
            have q3 := nne_use q3
            exact no (by omega)
          · rw [e1] at q3
            have q3 := neq_use q3
            refine ix_i (22 + j) (by simp only [nI_add]) (show 22 + j < 78 by omega) ?_
            refine And.intro (fun q4 => ?_) (fun q4 => ?_)
            · rw [e2] at q4
              have q4 := nne_use q4
              exact no (by omega)
            · rw [e2] at q4
              have q4 := neq_use q4
              exact yes (by omega)
  exact key 0 (Nat.zero_le _) (-1) (Or.inl ⟨rfl, rfl⟩)
theorem m_pathOf58_no {X : Nat} {v : Int32} (hn : nwM M 58 0 D) (hL : wfL D) (hX : X < 7) (hv : ∀ j, j < D 0 → v ≠ nI j) (h0 : K (some (vi (-1))) M) : ab_Call d 179 [vr 58 0, vi (nI X), vi v] M K := by
  refine ab_Call_nr (caX10_pathOf rfl (atX10_pathOf ?_))
  obtain ⟨w0, w1, w2, w3, w4⟩ := hL
  have key : ∀ j, j ≤ D 2 → ab_At miX10_pathOf d 5 [some (vr 58 0), some (vi (nI X)), some (vi v), some (vi (-1)), some (vi (nI j))] [] M (fun r M => K (r.map ab_nr) M) := by
    refine up_ind fun j hj ih => ?_
    refine atX10_pathOf ?_
    refine And.intro (fun h => ?_) (fun h => ?_)
    · exact h0
    · rw [nw58 hn (by omega)] at h
      have hjn := nlt_use h
      obtain ⟨p1, p2, p3, p4, p5⟩ := w4 j hjn
      have no : ab_At miX10_pathOf d 5 [some (vr 58 0), some (vi (nI X)), some (vi v), some (vi (-1)), some (vi (nI j + nI 1))] [] M (fun r M => K (r.map ab_nr) M) := by
        have := ih hjn
        rw [← nI_1 j] at this
        exact this
      have e1 : ¬ M.1 58 0 (10 + j) = v := by rw [nw58 hn (by omega)]; exact fun z => hv _ p1 z.symm
      have e2 : ¬ M.1 58 0 (22 + j) = v := by rw [nw58 hn (by omega)]; exact fun z => hv _ p2 z.symm
      refine ix_i (10 + j) (by simp only [nI_add]) (show 10 + j < 78 by omega) ?_
      refine And.intro (fun q => ?_) (fun q => ?_)
      · refine ix_i (10 + j) (by simp only [nI_add]) (show 10 + j < 78 by omega) ?_
        exact And.intro (fun _ => no) (fun q2 => absurd q2 e1)
      · refine ix_i (22 + j) (by simp only [nI_add]) (show 22 + j < 78 by omega) ?_
        refine And.intro (fun q2 => absurd q2 e2) (fun q2 => ?_)
        refine ix_i (10 + j) (by simp only [nI_add]) (show 10 + j < 78 by omega) ?_
        exact And.intro (fun _ => no) (fun q2 => absurd q2 e1)
  exact key 0 (Nat.zero_le _)
theorem m_byteAt {p : Nat} (ht : t < 4) (e52 : M.1 52 0 t = nI n) (e13 : M.1 49 0 13 = nI p) (hn : n ≤ 80) (hp : p < 1000) (h1 : p < n → K (some (vi (tc M t p))) M) (h0 : n ≤ p → K (some (vi (Int32.ofInt (-1000)))) M) : ab_Call d 175 [vr 49 0, vi (nI t)] M K := by
  refine ab_Call_nr (caX10_byteAt rfl (atX10_byteAt ?_))
  refine ix_i t rfl ht ?_
  refine And.intro (fun q => ?_) (fun q => ?_)
  · rw [e52, e13] at q
    exact h0 (nle_use q)
  · rw [e52, e13] at q
    have q := nlt_use q
    refine ix_i (80 * t + p) (by rw [e13]; simp only [pk_mul, nI_add]) (show _ < 320 by omega) ?_
    exact h1 q
theorem m_takes {p pl lo hi : Nat} {a b c : Int32} (ha : a = nI pl) (hb : b = nI lo) (hc : c = nI hi) (ht : t < 4) (e52 : M.1 52 0 t = nI n) (e13 : M.1 49 0 13 = nI p) (hn : n ≤ 80) (hp : p < 1000) (hpl : pl < 78) (hlo : lo < 1000) (hhi : hi < 1000) (h1 : ∀ f, fig (tc M t) n p lo hi = some f → K (some (.inl 1)) (ab_sI (ab_sI M 58 0 pl (nI f)) 49 0 13 (nI (p + 1)))) (h0 : fig (tc M t) n p lo hi = none → K (some (.inl 0)) M) : ab_Call (d + 1) 176 [vr 49 0, vi (nI t), vi a, vi b, vi c] M K := by
  subst ha
  subst hb
  subst hc
  refine caX10_takes rfl (atX10_takes ?_)
  refine m_byteAt ht e52 e13 hn hp (fun q => ?_) (fun q => ?_)
  · refine c_in (a := nI lo) (b := nI hi) rfl rfl (fun w w2 => ?_) (fun w => ?_)
    · have w : nI lo ≤ tc M t p - nI 48 := w
      have w2 : tc M t p - nI 48 ≤ nI hi := w2
      have hf : fig (tc M t) n p lo hi = some (tc M t p - nI 48).toInt.toNat := by
        rw [Int32.le_iff_toInt_le, nI_toInt (by omega)] at w w2
        unfold fig
        rw [if_pos ⟨q, w, w2⟩]
      refine ix_i pl rfl hpl ?_
      have := h1 _ hf
      rw [← (fig_some hf).2.1, ← nI_1 p, ← e13] at this
      exact this
    · refine h0 ?_
      have w : ¬ (nI lo ≤ tc M t p - nI 48 ∧ tc M t p - nI 48 ≤ nI hi) := w
      rw [Int32.le_iff_toInt_le, Int32.le_iff_toInt_le, nI_toInt (by omega), nI_toInt (by omega)] at w
      unfold fig
      rw [if_neg (fun z => w z.2)]
  · have hnone : fig (tc M t) n p lo hi = none := by unfold fig; rw [if_neg (by omega)]
    refine c_in (a := nI lo) (b := nI hi) rfl rfl (fun w w2 => ?_) (fun _ => h0 hnone)
    have w : nI lo ≤ Int32.ofInt (-1000) - nI 48 := w
    rw [Int32.le_iff_toInt_le, nI_toInt (by omega), show (Int32.ofInt (-1000) - nI 48).toInt = -1048 by decide] at w
    omega
theorem m_kindOf {x : Int32} (h1 : ∀ k, kdl x = some k → K (some (vi (nI k))) M) (h0 : kdl x = none → K (some (vi (-1))) M) : ab_Call d 177 [vi x] M K := by
  refine ab_Call_nr (caX10_kindOf rfl (atX10_kindOf ?_))
  unfold kdl at h1 h0
  refine And.intro (fun q => ?_) (fun q => h1 0 (by rw [if_pos q]))
  rw [if_neg q] at h1 h0
  refine And.intro (fun q => ?_) (fun q => h1 1 (by rw [if_pos q]))
  rw [if_neg q] at h1 h0
  refine And.intro (fun q => ?_) (fun q => h1 2 (by rw [if_pos q]))
  rw [if_neg q] at h1 h0
  refine And.intro (fun q => ?_) (fun q => h1 3 (by rw [if_pos q]))
  rw [if_neg q] at h1 h0
  refine And.intro (fun q => ?_) (fun q => h1 4 (by rw [if_pos q]))
  rw [if_neg q] at h1 h0
  refine And.intro (fun q => ?_) (fun q => h1 5 (by rw [if_pos q]))
  rw [if_neg q] at h0
  exact h0 rfl
end Reads
