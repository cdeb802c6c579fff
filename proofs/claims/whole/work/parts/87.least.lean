/-! ===== least: words and parts ===== -/
/-- a walk's minutes -/
def vm (D : Nat → Nat) (x : Nat × (Nat → Nat)) : Nat := sm (fun k => pm D (x.2 k) (x.2 (k + 1))) (x.1 - 1)
theorem vm_le {D : Nat → Nat} (hL : wfL D) {x : Nat × (Nat → Nat)} (h : x.1 ≤ 7) : vm D x ≤ 54 := by
  have : vm D x ≤ (x.1 - 1) * 9 := sm_le (fun k _ => pm_le hL _ _)
  omega
theorem hrs_tr {D E w : Nat → Nat} {N : Nat} (h : eqL D E) (h2 : D 2 ≤ 12) (h0 : 0 < N) : hrs (trD E w N) (N - 1) = vm D (N, w) := by
  have e2 : E 2 = D 2 := h 2 (by omega)
  unfold hrs vm
  refine sm_cong (fun k hk => ?_)
  have hk : k < N - 1 := hk
  unfold sg
  rw [trD_t (by omega), show 46 + k + 1 = 46 + (k + 1) by omega, trD_t (by omega), pm_cong trD_eqL (by omega), pm_cong h h2]
/-- the first of the best so far, by a value -/
def bsf (v : Nat × (Nat → Nat) → Int) : List (Nat × (Nat → Nat)) → Option (Nat × (Nat → Nat)) → Option (Nat × (Nat → Nat))
  | [], b => b
  | x :: L, none => bsf v L (some x)
  | x :: L, some b => if v b < v x then bsf v L (some x) else bsf v L (some b)
theorem bsf_some {v : Nat × (Nat → Nat) → Int} : ∀ {L : List (Nat × (Nat → Nat))} {b x : Nat × (Nat → Nat)} {P : Nat × (Nat → Nat) → Prop}, (∀ y, y ∈ L → P y) → P b → bsf v L (some b) = some x → P x
  | [], b, x, P, _, hb, h => by have : b = x := by simpa [bsf] using h
                                subst this; exact hb
  | y :: L, b, x, P, hL, hb, h => by
    rw [bsf] at h
    split at h
    · exact bsf_some (fun z hz => hL z (by simp [hz])) (hL y (by simp)) h
    · exact bsf_some (fun z hz => hL z (by simp [hz])) hb h
section LeastP
variable {d : Nat} {M : ab_M} {K : ab_K} {D : Nat → Nat}
def wgM (M : ab_M) (v : Int32) (N : Nat) : ab_M := ab_sC (ab_sI (ab_sI M 43 0 6 v) 43 0 5 (nI N)) 15 4 0 45 0 0 N
theorem c_weighW {v : Int32} {N : Nat} (hs : M.1 14 4 1 = nI N) (hN : N ≤ 7) (h1 : (M.1 43 0 5 = nI 0 ∨ M.1 43 0 6 < v) → K none (wgM M v N)) (h0 : ¬ M.1 43 0 5 = nI 0 → v ≤ M.1 43 0 6 → K none M) : ab_Call (d + 1) 101 [vr 43 0, vi v] M K := by
  refine caX8_weigh rfl (atX8_weigh ?_)
  unfold wgM at h1
  refine And.intro (fun q => ?_) (fun q => ?_)
  · refine cp_i 0 0 N rfl rfl hs (show 0 + N ≤ 7 by omega) (show 0 + N ≤ 7 by omega) ?_
    have := h1 (Or.inl q)
    rw [← hs] at this
    exact this
  · refine And.intro (fun z => h0 q z) (fun z => ?_)
    refine cp_i 0 0 N rfl rfl hs (show 0 + N ≤ 7 by omega) (show 0 + N ≤ 7 by omega) ?_
    have := h1 (Or.inr z)
    rw [← hs] at this
    exact this
theorem frA_wg {M' : ab_M} {v : Int32} {N : Nat} (h : frA M M') : frA M (wgM M' v N) := by
  have h2 : frA M (ab_sI (ab_sI M' 43 0 6 v) 43 0 5 (nI N)) := frA_sI (frA_sI h (by unfold scr; omega)) (by unfold scr; omega)
  refine ⟨fun g i k q => ?_, h2.2.1, h2.2.2⟩
  show (if g = 45 ∧ i = 0 ∧ 0 ≤ k ∧ k < 0 + N then _ else (ab_sI (ab_sI M' 43 0 6 v) 43 0 5 (nI N)).1 g i k) = _
  rw [if_neg (fun w => q (by unfold scr; omega))]
  exact h2.1 g i k q
theorem wg_45 {v : Int32} {N k : Nat} (hk : k < N) : (wgM M v N).1 45 0 k = M.1 15 4 k := by
  show (if 45 = 45 ∧ 0 = 0 ∧ 0 ≤ k ∧ k < 0 + N then M.1 15 4 (0 + (k - 0)) else _) = _
  rw [if_pos ⟨rfl, rfl, by omega, by omega⟩, Nat.sub_zero, Nat.zero_add]
theorem wg_o {v : Int32} {N g i : Nat} (h43 : g ≠ 43) (h45 : g ≠ 45) : (wgM M v N).1 g i = M.1 g i := by
  funext k
  show (if g = 45 ∧ i = 0 ∧ 0 ≤ k ∧ k < 0 + N then _ else (ab_sI (ab_sI M 43 0 6 v) 43 0 5 (nI N)).1 g i k) = _
  rw [if_neg (fun w => h45 w.1), sI_g h43, sI_g h43]
theorem c_fill45 {r n : Nat} {v : Int32} (hv : v = nI n) (hr : r < 6) (hn : n ≤ 7) (hK : K none (ab_sC (ab_sI M 4 0 r (nI n)) 45 0 0 3 r 0 n)) : ab_Call (d + 1) 88 [vr 1 0, vi (nI r), vr 45 0, vi v] M K := by
  subst hv
  refine caX7_fill rfl (atX7_fill ?_)
  refine ix_i r rfl hr ?_
  refine ix_i r rfl hr ?_
  refine cp_i 0 0 n rfl rfl rfl (show 0 + n ≤ 7 by omega) (show 0 + n ≤ 40 by omega) ?_
  exact hK
/-- what the class has kept -/
def kpC (v : Nat × (Nat → Nat) → Int32) (M : ab_M) : Option (Nat × (Nat → Nat)) → Prop
  | none => M.1 43 0 5 = nI 0
  | some b => 0 < b.1 ∧ b.1 ≤ 7 ∧ M.1 43 0 5 = nI b.1 ∧ M.1 43 0 6 = v b ∧ ∀ k, k < b.1 → M.1 45 0 k = nI (b.2 k)
theorem kpC_fr {v : Nat × (Nat → Nat) → Int32} {M M' : ab_M} {b : Option (Nat × (Nat → Nat))} (h : kpC v M b) (h43 : M'.1 43 0 = M.1 43 0) (h45 : M'.1 45 0 = M.1 45 0) : kpC v M' b := by
  cases b with
  | none => show M'.1 43 0 5 = _; rw [h43]; exact h
  | some b => show _ ∧ _ ∧ M'.1 43 0 5 = _ ∧ M'.1 43 0 6 = _ ∧ _; rw [h43, h45]; exact h
theorem kpC_wg {v : Nat × (Nat → Nat) → Int32} {B : Nat → Nat} {x : Nat × (Nat → Nat)} (hC : CF B M x.1 x.2) (h0 : 0 < x.1) (h7 : x.1 ≤ 7) : kpC v (wgM M (v x) x.1) (some x) := by
  refine ⟨h0, h7, ?_, ?_, fun k hk => ?_⟩
  · show (ab_sI (ab_sI M 43 0 6 (v x)) 43 0 5 (nI x.1)).1 43 0 5 = _
    exact sI_eq
  · show (ab_sI (ab_sI M 43 0 6 (v x)) 43 0 5 (nI x.1)).1 43 0 6 = _
    rw [sI_k (by omega), sI_eq]
  · rw [wg_45 hk]
    have := hC.1.2.2.2.2.1 k (by rw [trD_4]; exact hk)
    rw [trD_t hk] at this
    exact this
/-- the reference's keeping -/
def kpM (M : ab_M) : Option (Nat × (Nat → Nat)) → Prop
  | none => True
  | some b => 0 < b.1 ∧ b.1 ≤ 7 ∧ M.1 49 0 24 = nI b.1 ∧ ∀ k, k < b.1 → M.1 64 0 k = nI (b.2 k)
theorem kpM_fr {M M' : ab_M} {b : Option (Nat × (Nat → Nat))} (h : kpM M b) (h24 : M'.1 49 0 24 = M.1 49 0 24) (h64 : M'.1 64 0 = M.1 64 0) : kpM M' b := by
  cases b with
  | none => trivial
  | some b => show _ ∧ _ ∧ M'.1 49 0 24 = _ ∧ _; rw [h24, h64]; exact h
theorem m_keepWalk {x : Nat × (Nat → Nat)} (hC : RF M x.1 x.2) (h0 : 0 < x.1) (h7 : x.1 ≤ 7) (hK : ∀ M', M'.2 = M.2 → (∀ g i k, g ≠ 64 → ¬ (g = 49 ∧ i = 0 ∧ k = 24) → M'.1 g i k = M.1 g i k) → kpM M' (some x) → K none M') : ab_Call d 242 [vr 49 0] M K := by
  refine caX10_keepWalk rfl (atX10_keepWalk ?_)
  have key : ∀ j, j ≤ x.1 → ∀ M3 : ab_M, M3.2 = M.2 → (∀ g i k, g ≠ 64 → ¬ (g = 49 ∧ i = 0 ∧ k = 24) → M3.1 g i k = M.1 g i k) → M3.1 49 0 24 = nI x.1 → (∀ k, k < j → M3.1 64 0 k = nI (x.2 k)) → ab_At miX10_keepWalk d 10 [some (vr 49 0), some (vi (nI j))] [] M3 K := by
    refine up_ind fun j hj ih M3 f2 f3 e24 hc => ?_
    refine atX10_keepWalk ?_
    have e20 : M3.1 49 0 20 = nI x.1 := by rw [f3 49 0 20 (by omega) (by omega)]; exact hC.2.1
    refine And.intro (fun q => ?_) (fun q => ?_)
    · rw [e20] at q
      have : j = x.1 := by have := nle_use q; omega
      subst this
      exact hK M3 f2 f3 ⟨h0, h7, e24, hc⟩
    · rw [e20] at q
      have hjn := nlt_use q
      refine ix_i j rfl (show j < 8 by omega) ?_
      refine ix_i j rfl (show j < 8 by omega) ?_
      have e63 : M3.1 63 0 j = nI (x.2 j) := by rw [f3 63 0 j (by omega) (by omega)]; exact hC.1 j hjn
      have := ih hjn (ab_sI M3 64 0 j (M3.1 63 0 j)) f2 (fun g i k a b => by rw [sI_g a]; exact f3 g i k a b) e24 (fun k hk => by
        by_cases e : k = j
        · subst e; rw [sI_eq]; exact e63
        · rw [sI_k e]; exact hc k (by omega))
      rw [← nI_1 j] at this
      exact this
  refine key 0 (Nat.zero_le _) _ rfl (fun g i k a b => sI_ne (fun w => b w)) ?_ (fun k hk => absurd hk (by omega))
  rw [sI_eq]
  exact hC.2.1
theorem m_walkMinutes {x : Nat × (Nat → Nat)} (hn : nwM M 54 0 D) (hL : wfL D) (hC : RF M x.1 x.2) (ht : trl D x.1 x.2) (hK : K (some (vi (nI (vm D x)))) M) : ab_Call (d + 2) 241 [vr 49 0] M K := by
  refine caX10_walkMinutes rfl (atX10_walkMinutes ?_)
  have w0 := hL.1
  obtain ⟨t1, t2, t3, t4, t5, t6, t7⟩ := ht
  have key : ∀ j, j ≤ x.1 - 1 → ab_At miX10_walkMinutes (d + 2) 4 [some (vr 49 0), some (vi (nI (sm (fun k => pm D (x.2 k) (x.2 (k + 1))) j))), some (vi (nI j))] [] M K := by
    refine up_ind fun j hj ih => ?_
    refine atX10_walkMinutes ?_
    have ej : nI j + nI 1 = nI (j + 1) := nI_add j 1
    refine And.intro (fun q => ?_) (fun q => ?_)
    · have q : nI x.1 ≤ nI (j + 1) := by rw [← ej, ← hC.2.1]; exact q
      have : j = x.1 - 1 := by have := nle_use q; omega
      subst this
      exact hK
    · have q : nI (j + 1) < nI x.1 := by rw [← ej, ← hC.2.1]; exact q
      have hjn := nlt_use q
      refine ix_i j rfl (show j < 8 by omega) ?_
      refine ix_i (j + 1) ej (show j + 1 < 8 by omega) ?_
      have a1 := t3 j (by omega)
      have a2 := t3 (j + 1) (by omega)
      refine m_takesOf_e (X := x.2 j) (Y := x.2 (j + 1)) (hC.1 j (by omega)) (hC.1 (j + 1) (by omega)) hn hL (by omega) (by omega) (t7 j hjn) ?_
      have := ih (by omega)
      rw [← nI_1 j, sm, ← nI_add] at this
      exact this
  exact key 0 (Nat.zero_le _)
theorem m_walkToRow {r : Nat} {x : Nat × (Nat → Nat)} (hr : r < 6) (hk : kpM M (some x)) (hK : ∀ M', frR r M M' → M'.1 50 0 r = nI x.1 → (∀ k, k < x.1 → M'.1 51 0 (40 * r + k) = nI (x.2 k)) → (∀ g i, g ≠ 50 → g ≠ 51 → M'.1 g i = M.1 g i) → K none M') : ab_Call (d + 4) 243 [vr 49 0, vi (nI r)] M K := by
  refine caX10_walkToRow rfl (atX10_walkToRow ?_)
  obtain ⟨k1, k2, k3, k4⟩ := hk
  refine M_row_e k3 hr (by omega) ?_
  generalize hM6 : sR (ab_sI M 50 0 r (nI x.1)) 51 0 (flx (M.1 51 0) (40 * r) 40 (nI 0)) = M6
  have f6 : frR r M M6 := by rw [← hM6]; exact frR_fl (frR_sI (frR_A frA_refl) (Or.inr (Or.inr (Or.inl ⟨rfl, rfl, rfl⟩))))
  have s6 : ∀ g i, g ≠ 50 → g ≠ 51 → M6.1 g i = M.1 g i := fun g i a b => by rw [← hM6, sR_g b, sI_g a]
  have s50 : M6.1 50 0 r = nI x.1 := by rw [← hM6, sR_g (by omega)]; exact sI_eq
  have key : ∀ j, j ≤ x.1 → ∀ f : Nat → Int32, (∀ k, ¬ (40 * r ≤ k ∧ k < 40 * r + 40) → f k = M6.1 51 0 k) → (∀ k, k < j → f (40 * r + k) = nI (x.2 k)) → ab_At miX10_walkToRow (d + 4) 12 [some (vr 49 0), some (vi (nI r)), some (vi (nI x.1)), some (vi (nI j))] [] (sR M6 51 0 f) K := by
    refine up_ind fun j hj ih f hfo hfi => ?_
    refine atX10_walkToRow ?_
    refine And.intro (fun q => ?_) (fun q => ?_)
    · have : j = x.1 := by have := nle_use q; omega
      subst this
      refine hK (sR M6 51 0 f) ⟨fun g i k q q2 => ?_, f6.2.1, f6.2.2⟩ (by rw [sR_g (by omega)]; exact s50) (fun k hk => by rw [sR_eq]; exact hfi k hk) (fun g i a b => by rw [sR_g b]; exact s6 g i a b)
      by_cases e : g = 51 ∧ i = 0
      · obtain ⟨rfl, rfl⟩ := e
        rw [sR_eq, hfo k (fun w => q2 (Or.inr (Or.inr (Or.inr (Or.inl ⟨rfl, rfl, w.1, w.2⟩)))))]
        exact f6.1 51 0 k q q2
      · rw [sR_ne e]
        exact f6.1 g i k q q2
    · have hjn := nlt_use q
      have e64 : (sR M6 51 0 f).1 64 0 j = nI (x.2 j) := by rw [sR_g (by omega), s6 64 0 (by omega) (by omega)]; exact k4 j hjn
      refine ix_i j rfl (show j < 8 by omega) ?_
      refine ix_i (40 * r + j) (by simp only [pk_mul, nI_add]) (show _ < 240 by omega) ?_
      have := ih hjn (upd f (40 * r + j) ((sR M6 51 0 f).1 64 0 j)) (fun k w => by rw [upd_ne (by omega)]; exact hfo k w) (fun k hk => by
        by_cases e : k = j
        · subst e; rw [upd_eq]; exact e64
        · rw [upd_ne (by omega)]; exact hfi k (by omega))
      rw [← sI_sR, ← nI_1 j] at this
      exact this
  have := key 0 (Nat.zero_le _) (M6.1 51 0) (fun _ _ => rfl) (fun k hk => absurd hk (by omega))
  rw [sR_self] at this
  exact this
end LeastP
