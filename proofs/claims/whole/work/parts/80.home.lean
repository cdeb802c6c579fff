/-! ===== fewest: parts of the reference ===== -/
def Dq (D : Nat → Nat) (n : Nat) (E : Nat → Nat) : Prop := ∀ j, (∀ i, i < n → j ≠ 53 + (D 5 + i) ∧ j ≠ 61 + (D 5 + i) ∧ j ≠ 69 + (D 5 + i)) → E j = D j
theorem Dq_0 {D E : Nat → Nat} (h : Dq D 0 E) : E = D := by
  funext j
  exact h j (fun i hi => by omega)
theorem Dq_5 {D E : Nat → Nat} {n : Nat} (h : Dq D n E) : E 5 = D 5 := h 5 (fun i hi => by omega)
theorem Dq_mono {D E : Nat → Nat} {n m : Nat} (h : Dq D n E) (hnm : n ≤ m) : Dq D m E := fun j hj => h j (fun i hi => hj i (by omega))
theorem Dq_ly {D E : Nat → Nat} {n c : Nat} (h : Dq D (n + 1) E) : Dq (l5 D c) n (l5 E c) := by
  intro j hj
  have e5 : E 5 = D 5 := Dq_5 h
  have d5 : l5 D c 5 = D 5 + 1 := rfl
  unfold l5 lyD
  rw [e5]
  by_cases q1 : j = 5
  · rw [if_pos q1, if_pos q1]
  · rw [if_neg q1, if_neg q1]
    by_cases q2 : j = 53 + D 5
    · rw [if_pos q2, if_pos q2]
    · rw [if_neg q2, if_neg q2]
      by_cases q3 : j = 61 + D 5
      · rw [if_pos q3, if_pos q3]
      · rw [if_neg q3, if_neg q3]
        by_cases q4 : j = 69 + D 5
        · rw [if_pos q4, if_pos q4]
        · rw [if_neg q4, if_neg q4]
          refine h j (fun i hi => ?_)
          cases i with
          | zero => exact ⟨by omega, by omega, by omega⟩
          | succ i =>
            have := hj i (by omega)
            rw [d5] at this
            omega
/-- a row and left over ends -/
def frRJ (r n : Nat) (M M' : ab_M) : Prop := (∀ g i k, ¬ scr g i k → ¬ rcell r g i k → ¬ (g = 54 ∧ i = 0 ∧ junk n k) → M'.1 g i k = M.1 g i k) ∧ (∀ g i k, g ≠ 46 → g ≠ 67 → M'.2.1 g i k = M.2.1 g i k) ∧ ∀ g i k, g ≠ 13 → g ≠ 72 → M'.2.2 g i k = M.2.2 g i k
theorem frRJ_R {r n : Nat} {M M' : ab_M} (h : frR r M M') : frRJ r n M M' := ⟨fun g i k a b _ => h.1 g i k a b, h.2.1, h.2.2⟩
theorem frRJ_J {r n : Nat} {M M' : ab_M} (h : frJ n M M') : frRJ r n M M' := ⟨fun g i k a _ b => h.1 g i k a b, h.2.1, h.2.2⟩
theorem frRJ_trans {r n : Nat} {M M' M'' : ab_M} (h : frRJ r n M M') (h2 : frRJ r n M' M'') : frRJ r n M M'' := ⟨fun g i k a b c => (h2.1 g i k a b c).trans (h.1 g i k a b c), fun g i k q q2 => (h2.2.1 g i k q q2).trans (h.2.1 g i k q q2), fun g i k q q2 => (h2.2.2 g i k q q2).trans (h.2.2 g i k q q2)⟩
theorem Rel_rowsJ {r n e : Nat} {M M' : ab_M} (hR : Rel M) (hr : r < 6) (hn : n ≤ 40) (h : frRJ r e M M') (h4 : M'.1 4 0 r = nI n) (h50 : M'.1 50 0 r = nI n) (hrow : ∀ k, k < n → M'.1 3 r k = M'.1 51 0 (40 * r + k)) (ht : M'.1 0 0 14 = M'.1 49 0 7) (h5 : M.1 54 0 5 = nI e) (h8 : e ≤ 8) (h0 : ¬ M.1 54 0 0 = nI 0) : Rel M' := by
  have R1 : Rel (fun a b c => if a = 54 then M.1 a b c else M'.1 a b c, M'.2) := by
    refine Rel_rows hR hr hn ⟨fun g i k q q2 => ?_, h.2.1, h.2.2⟩ h4 h50 hrow ht
    show (if g = 54 then M.1 g i k else M'.1 g i k) = _
    by_cases w : g = 54
    · rw [if_pos w]
    · rw [if_neg w]
      exact h.1 g i k q q2 (fun v => w v.1)
  refine Rel_junk R1 ⟨fun g i k q q2 => ?_, fun _ _ _ _ _ => rfl, fun _ _ _ _ _ => rfl⟩ h5 h8 h0
  show M'.1 g i k = if g = 54 then M.1 g i k else M'.1 g i k
  by_cases w : g = 54
  · rw [if_pos w]
    subst w
    exact h.1 54 i k q (by unfold rcell; omega) q2
  · rw [if_neg w]
theorem lyM_off {M : ab_M} {n e x y m k : Nat} (h5 : k ≠ 5) (hj : ¬ junk n k) (he : n ≤ e) (h8 : e < 8) : (lyM M e x y m).1 54 0 k = M.1 54 0 k := by
  unfold lyM
  have nk : ∀ q, junk n q → k ≠ q := fun q hq w => hj (by rw [w]; exact hq)
  rw [sI_k h5, sI_k (nk _ ⟨e, he, h8, Or.inr (Or.inr rfl)⟩), sI_k (nk _ ⟨e, he, h8, Or.inr (Or.inl rfl)⟩), sI_k (nk _ ⟨e, he, h8, Or.inl rfl⟩)]
theorem lyM_o {M : ab_M} {e x y m g i k : Nat} (h : ¬ (g = 54 ∧ i = 0)) : (lyM M e x y m).1 g i k = M.1 g i k := by
  unfold lyM
  have nw' : ∀ {k'}, ¬ (g = 54 ∧ i = 0 ∧ k = k') := fun q => h ⟨q.1, q.2.1⟩
  rw [sI_ne nw', sI_ne nw', sI_ne nw', sI_ne nw']
section Home
variable {d : Nat} {M : ab_M} {K : ab_K} {D : Nat → Nat}
theorem m_areHome {E : Nat → Nat} (hn : nwM M 54 0 E) (hw : wf E) (h4 : 0 < E 4) (h1 : ∀ M', frS 59 61 M M' → hmE E → K (some (.inl 1)) M') (h0 : ∀ M', frS 59 61 M M' → ¬ hmE E → K (some (.inl 0)) M') : ab_Call (d + 5) 233 [vr 49 0] M K := by
  refine caX10_areHome rfl (atX10_areHome ?_)
  refine m_runs hn hw (fun M1 f1 hO => ?_)
  refine m_caughtAt (frS_nw f1 (by omega) hn) hw hO h4 (fun k k1 k2 k3 k4 => ?_) (fun k4 => ?_)
  · have := (bnd_of hw).2.1
    refine And.intro (fun _ => ?_) (fun q => absurd q (n9 (by omega)))
    exact h0 M1 f1 (fun w => w k k1 k2 k3)
  · refine And.intro (fun q => absurd rfl q) (fun _ => ?_)
    exact h1 M1 f1 k4
theorem m_laysFive {E : Nat → Nat} {c : Nat} {v : Int32} (hv : v = nI c) (hc : c < 70) (hn : nwM M 54 0 E) (h5 : E 5 < 8) (hK : K none (lyM M (E 5) (c / 10) (c % 10) 5)) : ab_Call (d + 1) 234 [vr 49 0, vi v] M K := by
  subst hv
  refine caX10_laysFive rfl (atX10_laysFive ?_)
  refine And.intro (by decide) ?_
  refine And.intro (by decide) ?_
  exact m_lays_e (pk_div (by omega) (by omega) (by omega)) (pk_rem (by omega) (by omega) (by omega)) (m := 5) rfl hn h5 hK
theorem m_layLures (hn : nwM M 54 0 D) (hw : wf D) (hK : ∀ M', frA M M' → M'.1 49 0 18 = nI (cnt D 70) → opn D M' 62 70 → K none M') : ab_Call (d + 3) 232 [vr 49 0] M K := by
  refine caX10_layLures rfl (atX10_layLures ?_)
  have w0 : D 0 ≤ 7 := hw.1.1
  have key : ∀ c, c ≤ 70 → ∀ M3, frA M M3 → M3.1 49 0 18 = nI (cnt D c) → opn D M3 62 c → ab_At miX10_layLures (d + 3) 7 [some (vr 49 0), some (vi (nI c))] [] M3 K := by
    refine up_ind fun c hc ih M3 f3 e3 o3 => ?_
    refine atX10_layLures ?_
    have n3 := frA_nw f3 (by omega) (by omega) hn
    refine And.intro (fun q => ?_) (fun q => ?_)
    · have : c = 70 := by have := nle_use (a := 70) q; omega
      subst this
      exact hK M3 f3 e3 o3
    · have hc7 := nlt_use (b := 70) q
      have skip : adB D c = false → ab_At miX10_layLures (d + 3) 7 [some (vr 49 0), some (vi (nI c + nI 1))] [] M3 K := by
        intro w
        have := ih hc7 M3 f3 (by rw [cnt_0 w]; exact e3) (opn_up o3 (fun c' h1 h2 => by have : c' = c := by omega
                                                                                        rw [this]; exact w))
        rw [← nI_1 c] at this
        exact this
      have d1 : nI c / nI 10 = nI (c / 10) := pk_div (by omega) (by omega) (by omega)
      have d2 : ab_rem (nI c) (nI 10) = nI (c % 10) := pk_rem (by omega) (by omega) (by omega)
      refine And.intro (by decide) ?_
      refine m_isPlace_e d1 n3 w0 (by omega) (fun p1 => ?_) (fun p1 => skip (adB_0 (fun w => p1 w.1)))
      refine And.intro (by decide) ?_
      refine m_isPlace_e d2 n3 w0 (by omega) (fun p2 => ?_) (fun p2 => skip (adB_0 (fun w => p2 w.2.1)))
      refine And.intro (by decide) ?_
      refine And.intro (by decide) ?_
      refine m_mayLure_e d1 d2 n3 hw (by omega) (by omega) (fun ha => ?_) (fun ha => ?_)
      · have w := adB_1 p1 p2 ha
        have hcl := cnt_lt hw.1 hc7 w
        refine And.intro (fun q => absurd q (by decide)) (fun _ => ?_)
        refine ix_i (cnt D c) e3 (show _ < 49 by omega) ?_
        have e5 : (ab_sI M3 62 0 (cnt D c) (nI c)).1 49 0 18 = nI (cnt D c) := e3
        have := ih hc7 (ab_sI (ab_sI M3 62 0 (cnt D c) (nI c)) 49 0 18 ((ab_sI M3 62 0 (cnt D c) (nI c)).1 49 0 18 + nI 1)) (frA_sI (frA_sI f3 (by unfold scr; omega)) (by unfold scr; omega)) (by rw [sI_eq, e5, cnt_1 w, nI_add]) (opn_set o3 w)
        rw [← nI_1 c] at this
        exact this
      · exact And.intro (fun _ => skip (adB_0 (fun w => ha w.2.2))) (fun q => absurd rfl q)
  exact key 0 (Nat.zero_le _) _ (frA_sI frA_refl (by unfold scr; omega)) rfl (fun j hj => absurd hj (by omega))
theorem m_toRow {r n : Nat} {A B C : Int32} (hr : r < 6) (hn : n ≤ 3) (hK : ∀ M', frR r M M' → M'.1 50 0 r = nI n → (∀ k, k < n → M'.1 51 0 (40 * r + k) = if k = 0 then A else if k = 1 then B else C) → (∀ g i, g ≠ 50 → g ≠ 51 → M'.1 g i = M.1 g i) → K (some (vi (nI n))) M') : ab_Call (d + 4) 235 [vr 49 0, vi (nI r), vi (nI n), vi A, vi B, vi C] M K := by
  refine caX10_toRow rfl (atX10_toRow ?_)
  refine M_row hr (by omega) ?_
  generalize hM6 : sR (ab_sI M 50 0 r (nI n)) 51 0 (flx (M.1 51 0) (40 * r) 40 (nI 0)) = M6
  have f6 : frR r M M6 := by rw [← hM6]; exact frR_fl (frR_sI (frR_A frA_refl) (Or.inr (Or.inr (Or.inl ⟨rfl, rfl, rfl⟩))))
  have s6 : ∀ g i, g ≠ 50 → g ≠ 51 → M6.1 g i = M.1 g i := fun g i a b => by rw [← hM6, sR_g b, sI_g a]
  have s50 : M6.1 50 0 r = nI n := by rw [← hM6, sR_g (by omega)]; exact sI_eq
  have key : ∀ j, j ≤ n → ∀ f : Nat → Int32, (∀ k, ¬ (40 * r ≤ k ∧ k < 40 * r + 40) → f k = M6.1 51 0 k) → (∀ k, k < j → f (40 * r + k) = if k = 0 then A else if k = 1 then B else C) → ab_At miX10_toRow (d + 4) 11 [some (vr 49 0), some (vi (nI r)), none, some (vi A), some (vi B), some (vi C), some (vi (nI n)), some (vi (nI j))] [] (sR M6 51 0 f) K := by
    refine up_ind fun j hj ih f hfo hfi => ?_
    refine atX10_toRow ?_
    refine And.intro (fun q => ?_) (fun q => ?_)
    · have : j = n := by have := nle_use q; omega
      subst this
      refine hK (sR M6 51 0 f) ⟨fun g i k q q2 => ?_, f6.2.1, f6.2.2⟩ (by rw [sR_g (by omega)]; exact s50) (fun k hk => by rw [sR_eq]; exact hfi k hk) (fun g i a b => by rw [sR_g b]; exact s6 g i a b)
      by_cases e : g = 51 ∧ i = 0
      · obtain ⟨rfl, rfl⟩ := e
        rw [sR_eq, hfo k (fun w => q2 (Or.inr (Or.inr (Or.inr (Or.inl ⟨rfl, rfl, w.1, w.2⟩)))))]
        exact f6.1 51 0 k q q2
      · rw [sR_ne e]
        exact f6.1 g i k q q2
    · have hjn := nlt_use q
      have go : ∀ v, v = (if j = 0 then A else if j = 1 then B else C) → ab_At miX10_toRow (d + 4) 11 [some (vr 49 0), some (vi (nI r)), none, some (vi A), some (vi B), some (vi C), some (vi (nI n)), some (vi (nI j + nI 1))] [] (ab_sI (sR M6 51 0 f) 51 0 (40 * r + j) v) K := by
        intro v hv
        have := ih hjn (upd f (40 * r + j) v) (fun k w => by rw [upd_ne (by omega)]; exact hfo k w) (fun k hk => by
          by_cases e : k = j
          · subst e; rw [upd_eq]; exact hv
          · rw [upd_ne (by omega)]; exact hfi k (by omega))
        rw [← sI_sR, ← nI_1 j] at this
        exact this
      refine And.intro (fun w => ?_) (fun w => ?_)
      · have w := nne_use (a := j) (b := 0) w
        refine And.intro (fun w2 => ?_) (fun w2 => ?_)
        · have w2 := nne_use (a := j) (b := 1) w2
          refine ix_i (40 * r + j) (by simp only [pk_mul, nI_add]) (show _ < 240 by omega) ?_
          exact go C (by rw [if_neg w, if_neg w2])
        · have w2 := neq_use (a := j) (b := 1) w2
          refine ix_i (40 * r + j) (by simp only [pk_mul, nI_add]) (show _ < 240 by omega) ?_
          exact go B (by rw [if_neg w, if_pos w2])
      · have w := neq_use (a := j) (b := 0) w
        refine ix_i (40 * r + j) (by simp only [pk_mul, nI_add]) (show _ < 240 by omega) ?_
        exact go A (by rw [if_pos w])
  have := key 0 (Nat.zero_le _) (M6.1 51 0) (fun _ _ => rfl) (fun k hk => absurd hk (by omega))
  rw [sR_self] at this
  exact this
end Home
