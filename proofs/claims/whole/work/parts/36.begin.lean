/-! ===== the class's chase: gather, survey ===== -/
def frK (a b k : Nat) (M M' : ab_M) : Prop := M'.2 = M.2 ∧ ∀ g i j, ¬ (a ≤ g ∧ g ≤ b ∧ j = k) → M'.1 g i j = M.1 g i j
theorem frK_refl {a b k : Nat} {M : ab_M} : frK a b k M M := ⟨rfl, fun _ _ _ _ => rfl⟩
theorem frK_sI {a b g i k : Nat} {v : Int32} {M M' : ab_M} (h : frK a b k M M') (h1 : a ≤ g) (h2 : g ≤ b) : frK a b k M (ab_sI M' g i k v) :=
  ⟨h.1, fun g' i' j' q => by rw [sI_ne (fun e => q (by omega))]; exact h.2 g' i' j' q⟩
theorem frK_S {a b k : Nat} {M M' : ab_M} (h : frK a b k M M') : frS a b M M' := ⟨h.1, fun g i q => by funext j; exact h.2 g i j (fun w => q ⟨w.1, w.2.1⟩)⟩
theorem frS_mono {a b a' b' : Nat} {M M' : ab_M} (h : frS a' b' M M') (h1 : a ≤ a') (h2 : b' ≤ b) : frS a b M M' := ⟨h.1, fun g i q => h.2 g i (by omega)⟩
theorem frS_ld {a b l : Nat} {M M' : ab_M} {D : Nat → Nat} (h : frS a b M M') (h2 : 12 < a) (hl : ldC M l D) : ldC M' l D := by
  unfold ldC at *
  rw [h.2 9 l (by omega), h.2 10 l (by omega)]
  refine ⟨hl.1, hl.2.1, hl.2.2.1, hl.2.2.2.1, fun x hx y hy => ?_⟩
  rw [h.2 12 _ (by omega)]
  exact hl.2.2.2.2 x hx y hy
theorem frS_cr {a b c : Nat} {M M' : ab_M} {D : Nat → Nat} (h : frS a b M M') (h2 : 18 < a) (hc : crC M c D) : crC M' c D := by
  unfold crC at *
  rw [h.2 14 c (by omega), h.2 15 c (by omega), h.2 16 c (by omega), h.2 17 c (by omega), h.2 18 c (by omega)]
  exact hc
section Begin
variable {d c l : Nat} {M : ab_M} {K : ab_K} {D : Nat → Nat}
/-- the chase's hounds -/
def hdC (M : ab_M) (H : Nat) (kd : Nat → Nat) : Prop := M.1 21 0 0 = nI H ∧ ∀ i, i < H → M.1 22 0 i = nI (kd i) ∧ M.1 23 0 i = nI (b1 (slo (kd i)))
theorem frS_hd {a b H : Nat} {kd : Nat → Nat} {M M' : ab_M} (h : frS a b M M') (h2 : 23 < a) (hd : hdC M H kd) : hdC M' H kd := by
  unfold hdC at *
  rw [h.2 21 0 (by omega), h.2 22 0 (by omega), h.2 23 0 (by omega)]
  exact hd
theorem c_enter {i kd : Nat} {v : Int32} (hv : v = nI kd) (hi : i < 4) (hk : kd ≤ 5) (hK : K none (ab_sI (ab_sI M 22 0 i (nI kd)) 23 0 i (nI (b1 (slo kd))))) : ab_Call (d + 1) 3 [vr 21 0, vi (nI i), vi v] M K := by
  subst hv
  refine caX0_enter rfl (atX0_enter ?_)
  refine ix_i i rfl hi ?_
  refine c_isA hk (by omega) (fun q => ?_) (fun q => ?_)
  · refine ix_i i rfl hi ?_
    rw [b1_t (show slo kd = true by unfold slo; simp; omega)] at hK
    exact hK
  · refine ix_i i rfl hi ?_
    rw [b1_f (show slo kd = false by unfold slo; simp; omega)] at hK
    exact hK
theorem c_gather (hl : ldC M l D) (hL : wfL D) (hK : ∀ M', frS 21 23 M M' → hdC M' (D 1) (kds D) → K none M') : ab_Call (d + 2) 1 [vr 21 0, vr 9 l] M K := by
  refine caX0_gather rfl (atX0_gather ?_)
  have w1 : D 1 ≤ 4 := hL.2.1
  have key : ∀ j, j ≤ D 1 → ∀ M', frS 21 23 M M' → M'.1 21 0 0 = nI (D 1) → (∀ i, i < j → M'.1 22 0 i = nI (kds D i) ∧ M'.1 23 0 i = nI (b1 (slo (kds D i)))) → ab_At miX0_gather (d + 2) 10 [some (vr 21 0), some (vr 9 l), some (vi (nI j))] [] M' K := by
    refine up_ind fun j hj ih M' hf h0 hm => ?_
    refine atX0_gather ?_
    refine And.intro (fun h => ?_) (fun h => ?_)
    · rw [h0] at h
      have : j = D 1 := by have := nle_use h; omega
      subst this
      exact hK M' hf ⟨h0, hm⟩
    · rw [h0] at h
      have hjn := nlt_use h
      have hl' := frS_ld hf (by omega) hl
      refine ix_i j rfl (show j < 4 by omega) ?_
      refine c_enter (kd := kds D j) (hl'.2.2.2.1 j hjn) (by omega) (hL.2.2.2.1 j hjn) ?_
      have := ih hjn _ (frS_sI (frS_sI hf (g := 22) (i := 0) (k := j) (v := nI (kds D j)) (by omega) (by omega)) (g := 23) (i := 0) (k := j) (v := nI (b1 (slo (kds D j)))) (by omega) (by omega)) h0 (fun i hi => by
        by_cases e : i = j
        · subst e
          exact ⟨sI_eq (g := 22), sI_eq (g := 23)⟩
        · have := hm i (by omega)
          exact ⟨(sI_k (g := 22) (by omega)).trans this.1, (sI_k (g := 23) (by omega)).trans this.2⟩)
      rw [← nI_1] at this
      exact this
  have e : M.1 9 l 1 = nI (D 1) := hl.2.1
  refine key 0 (Nat.zero_le _) (ab_sI M 21 0 0 (M.1 9 l 1)) (frS_sI frS_refl (by omega) (by omega)) (sI_eq.trans e) (fun i hi => absurd hi (by omega))
theorem c_gatherOne {kd : Nat} (hk : kd ≤ 5) (hK : ∀ M', frS 21 23 M M' → hdC M' 1 (fun _ => kd) → K none M') : ab_Call (d + 2) 2 [vr 21 0, vi (nI kd)] M K := by
  refine caX0_gatherOne rfl (atX0_gatherOne ?_)
  refine c_enter (kd := kd) rfl (by omega) hk ?_
  refine hK _ (frS_sI (frS_sI (frS_sI frS_refl (by omega) (by omega)) (by omega) (by omega)) (by omega) (by omega)) ⟨sI_eq (M := M) (g := 21) (i := 0) (k := 0) (v := nI 1), fun i hi => ?_⟩
  have : i = 0 := by omega
  subst this
  exact ⟨by simp [ab_sI], by simp [ab_sI]⟩
/-- what is known of a place, n false ends seen -/
def svP (D : Nat → Nat) (M : ab_M) (k n : Nat) : Prop :=
  (k + 1 < D 4 → M.1 24 0 k = nI (sg D k) ∧ M.1 26 0 k = nI (bs (cnd D false k) n) ∧ M.1 27 0 k = nI (los D false k n) ∧ M.1 28 0 k = nI (bs (cnd D true k) n) ∧ M.1 29 0 k = nI (los D true k n)) ∧
  M.1 25 0 k = nI (b1 (decide (k + 1 < D 4) && (wy D k || exb (fun e => decide (D (53 + e) = D (46 + k))) n)))
theorem svP_fr {a b k n : Nat} {M M' : ab_M} (h : frS a b M M') (h2 : 29 < a) (hs : svP D M k n) : svP D M' k n := by
  unfold svP at *
  rw [h.2 24 0 (by omega), h.2 25 0 (by omega), h.2 26 0 (by omega), h.2 27 0 (by omega), h.2 28 0 (by omega), h.2 29 0 (by omega)]
  exact hs
def sv6 (M : ab_M) (k : Nat) (v4 v5 v6 v7 v8 v9 : Int32) : ab_M := ab_sI (ab_sI (ab_sI (ab_sI (ab_sI (ab_sI M 24 0 k v4) 25 0 k v5) 26 0 k v6) 27 0 k v7) 28 0 k v8) 29 0 k v9
theorem sv6_at {k : Nat} {v4 v5 v6 v7 v8 v9 : Int32} : (sv6 M k v4 v5 v6 v7 v8 v9).1 24 0 k = v4 ∧ (sv6 M k v4 v5 v6 v7 v8 v9).1 25 0 k = v5 ∧ (sv6 M k v4 v5 v6 v7 v8 v9).1 26 0 k = v6 ∧ (sv6 M k v4 v5 v6 v7 v8 v9).1 27 0 k = v7 ∧ (sv6 M k v4 v5 v6 v7 v8 v9).1 28 0 k = v8 ∧ (sv6 M k v4 v5 v6 v7 v8 v9).1 29 0 k = v9 := by
  simp [sv6, ab_sI]
theorem sv6_fr {k : Nat} {v4 v5 v6 v7 v8 v9 : Int32} : frK 24 29 k M (sv6 M k v4 v5 v6 v7 v8 v9) := frK_sI (frK_sI (frK_sI (frK_sI (frK_sI (frK_sI frK_refl (by omega) (by omega)) (by omega) (by omega)) (by omega) (by omega)) (by omega) (by omega)) (by omega) (by omega)) (by omega) (by omega)
theorem c_survey {k : Nat} (hl : ldC M l D) (hc : crC M c D) (hb : bnd D) (hk : k < D 4) (h21 : M.1 21 0 1 = nI (D 4)) (hK : ∀ M', frK 24 29 k M M' → svP D M' k 0 → K none M') : ab_Call (d + 1) 7 [vr 21 0, vr 9 l, vr 14 c, vi (nI k)] M K := by
  refine caX0_survey rfl (atX0_survey ?_)
  have hb' := hb
  obtain ⟨b3, b4, b5, b6, b7, b8⟩ := hb'
  have fin : ∀ (v2 v5 : Nat) (v4 : Int32), (k + 1 < D 4 → v4 = nI (sg D k)) → v2 = b1 (decide (k + 1 < D 4) && wy D k) → v5 = (if (decide (k + 1 < D 4) && wy D k) then 2 else 0) → ∀ x9, x9 = nI v5 → K none (sv6 M k v4 (nI v2) (nI 0) (nI v5) (nI 0) x9) := by
    intro v2 v5 v4 h4 h2 h5 x9 h9
    obtain ⟨e4, e5, e6, e7, e8, e9⟩ := sv6_at (M := M) (k := k) (v4 := v4) (v5 := nI v2) (v6 := nI 0) (v7 := nI v5) (v8 := nI 0) (v9 := x9)
    subst h9
    refine hK _ sv6_fr ⟨fun q => ?_, ?_⟩
    · have z : ∀ b, los D b k 0 = v5 := by
        intro b
        rw [h5]
        simp only [q, decide_true, Bool.true_and]
        exact Nat.add_zero _
      rw [z, z]
      exact ⟨e4.trans (h4 q), e6, e7, e8, e9⟩
    · rw [exb, Bool.or_false, ← h2]
      exact e5
  refine And.intro (fun q => ?_) (fun q => ?_)
  · rw [h21, nI_sub1 (by omega) (by omega)] at q
    refine ix_i k rfl (show k < 7 by omega) ?_
    refine c_isWindy (D := D) hc hb (by omega) (fun q2 _ => by omega) (fun q2 => ?_)
    have z : (decide (k + 1 < D 4) && wy D k) = false := by rw [show decide (k + 1 < D 4) = false by simp; omega, Bool.false_and]
    refine ix_i k rfl (show k < 7 by omega) ?_
    refine ix_i k rfl (show k < 7 by omega) ?_
    refine ix_i k rfl (show k < 7 by omega) ?_
    refine And.intro (fun _ => ?_) (fun q7 => absurd (sI_eq (M := ab_sI M 24 0 k (nI 0)) (g := 25) (i := 0) (k := k) (v := nI 0)) q7)
    refine ix_i k rfl (show k < 7 by omega) ?_
    refine ix_i k rfl (show k < 7 by omega) ?_
    refine ix_i k rfl (show k < 7 by omega) ?_
    refine ix_i k rfl (show k < 7 by omega) ?_
    refine fin 0 0 (nI 0) (fun w => by omega) (by rw [z]; rfl) (by rw [z]; rfl) _ ?_
    exact sI_eq (M := ab_sI (ab_sI (ab_sI M 24 0 k (nI 0)) 25 0 k (nI 0)) 26 0 k (nI 0)) (g := 27)
  · rw [h21, nI_sub1_lt (by omega) (by omega)] at q
    refine c_nextPath hl hc hb q ?_
    refine ix_i k rfl (show k < 7 by omega) ?_
    refine c_isWindy (D := D) hc hb (by omega) (fun _ q2 => ?_) (fun q2 => ?_)
    · have z : (decide (k + 1 < D 4) && wy D k) = true := by rw [wy_1 q2, Bool.and_true]; simpa using q
      refine ix_i k rfl (show k < 7 by omega) ?_
      refine ix_i k rfl (show k < 7 by omega) ?_
      refine ix_i k rfl (show k < 7 by omega) ?_
      refine And.intro (fun q7 => absurd (q7.symm.trans (sI_eq (M := ab_sI M 24 0 k (nI (sg D k))) (g := 25) (i := 0) (k := k) (v := nI 1))) (by decide)) (fun _ => ?_)
      refine ix_i k rfl (show k < 7 by omega) ?_
      refine ix_i k rfl (show k < 7 by omega) ?_
      refine ix_i k rfl (show k < 7 by omega) ?_
      refine ix_i k rfl (show k < 7 by omega) ?_
      refine fin 1 2 (nI (sg D k)) (fun _ => rfl) (by rw [z]; rfl) (by rw [z]; rfl) _ ?_
      exact sI_eq (M := ab_sI (ab_sI (ab_sI M 24 0 k (nI (sg D k))) 25 0 k (nI 1)) 26 0 k (nI 0)) (g := 27)
    · have z : (decide (k + 1 < D 4) && wy D k) = false := by
        have : wy D k = false := by unfold wy; simp; exact fun w => q2 ⟨q, w⟩
        rw [this, Bool.and_false]
      refine ix_i k rfl (show k < 7 by omega) ?_
      refine ix_i k rfl (show k < 7 by omega) ?_
      refine ix_i k rfl (show k < 7 by omega) ?_
      refine And.intro (fun _ => ?_) (fun q7 => absurd (sI_eq (M := ab_sI M 24 0 k (nI (sg D k))) (g := 25) (i := 0) (k := k) (v := nI 0)) q7)
      refine ix_i k rfl (show k < 7 by omega) ?_
      refine ix_i k rfl (show k < 7 by omega) ?_
      refine ix_i k rfl (show k < 7 by omega) ?_
      refine ix_i k rfl (show k < 7 by omega) ?_
      refine fin 0 0 (nI (sg D k)) (fun _ => rfl) (by rw [z]; rfl) (by rw [z]; rfl) _ ?_
      exact sI_eq (M := ab_sI (ab_sI (ab_sI M 24 0 k (nI (sg D k))) 25 0 k (nI 0)) 26 0 k (nI 0)) (g := 27)
end Begin
