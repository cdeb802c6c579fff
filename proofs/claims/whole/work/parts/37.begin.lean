/-! ===== the class's chase: false ends, begin ===== -/
section Begin2
variable {d c l : Nat} {M : ab_M} {K : ab_K} {D : Nat → Nat}
theorem los_s1 {b : Bool} {k n : Nat} (h : cnd D b k n = true) : nI (los D b k (n + 1)) = nI (los D b k n) + nI 2 * nI (D (69 + n)) := by
  rw [pk_mul, nI_add]
  unfold los
  rw [sm, if_pos h, Nat.add_assoc]
theorem los_s0 {b : Bool} {k n : Nat} (h : cnd D b k n = false) : los D b k (n + 1) = los D b k n := by
  unfold los
  rw [sm, h]
  rfl
theorem bs_e0 {p : Nat → Bool} {n : Nat} (h : p n = false) : bs p (n + 1) = bs p n := by
  rw [bs, h]
  rfl
theorem svP_step {k0 n : Nat} {M' : ab_M} (hw : wf D) (hs : ∀ k, k < D 4 → svP D M k n) (hk0 : k0 + 1 < D 4) (he : D (53 + n) = D (46 + k0)) (hf : frK 25 29 k0 M M') (e5 : M'.1 25 0 k0 = nI 1) (e6 : M'.1 26 0 k0 = nI (bs (cnd D false k0) (n + 1))) (e7 : M'.1 27 0 k0 = nI (los D false k0 (n + 1))) (e8 : M'.1 28 0 k0 = nI (bs (cnd D true k0) (n + 1))) (e9 : M'.1 29 0 k0 = nI (los D true k0 (n + 1))) : ∀ k, k < D 4 → svP D M' k (n + 1) := by
  intro k hk
  by_cases e : k = k0
  · subst e
    refine ⟨fun _ => ⟨?_, e6, e7, e8, e9⟩, ?_⟩
    · rw [hf.2 24 0 k (by omega)]
      exact ((hs k hk).1 hk0).1
    · rw [e5, exb]
      simp [he, hk0, b1]
  · have ne : ¬ D (53 + n) = D (46 + k) := fun w => by
      have hd := hw.2.2.2.2.2.2.1
      rcases Nat.lt_trichotomy k k0 with q | q | q
      · exact hd k k0 q (by omega) (w.symm.trans he)
      · exact e q
      · exact hd k0 k q hk (he.symm.trans w)
    have cn : ∀ b, cnd D b k n = false := fun b => by unfold cnd; rw [show decide (D (53 + n) = D (46 + k)) = false by simpa using ne, Bool.false_and]
    have h := hs k hk
    refine ⟨fun q => ?_, ?_⟩
    · rw [hf.2 24 0 k (by omega), hf.2 26 0 k (by omega), hf.2 27 0 k (by omega), hf.2 28 0 k (by omega), hf.2 29 0 k (by omega), bs_e0 (cn false), bs_e0 (cn true), los_s0 (cn false), los_s0 (cn true)]
      exact h.1 q
    · rw [hf.2 25 0 k (by omega), exb, show decide (D (53 + n) = D (46 + k)) = false by simpa using ne, Bool.or_false]
      exact h.2
theorem c_indexOf_e {X : Nat} {v : Int32} (hv : v = nI X) (hc : crC M c D) (hb : bnd D) (hX : X < 2 ^ 31) (h1 : ∀ k, k < D 4 → D (46 + k) = X → (∀ j, j < k → D (46 + j) ≠ X) → K (some (vi (nI k))) M) (h0 : (∀ k, k < D 4 → D (46 + k) ≠ X) → K (some (.inl (-9))) M) : ab_Call d 29 [vr 14 c, vi v] M K := by
  subst hv
  exact c_indexOf hc hb hX h1 h0
theorem c_surveyEnd {n : Nat} (hc : crC M c D) (hw : wf D) (hn : n < D 5) (h21 : M.1 21 0 1 = nI (D 4)) (hs : ∀ k, k < D 4 → svP D M k n) (hK : ∀ M', frS 25 29 M M' → (∀ k, k < D 4 → svP D M' k (n + 1)) → K none M') : ab_Call (d + 1) 8 [vr 21 0, vr 14 c, vi (nI n)] M K := by
  refine caX0_surveyEnd rfl (atX0_surveyEnd ?_)
  have hb := bnd_of hw
  have hb' := hb
  obtain ⟨b3, b4, b5, b6, b7, b8⟩ := hb'
  obtain ⟨e1, e2, e3⟩ := hc.2.2.2.2.2 n hn
  obtain ⟨g1, g2, g3⟩ := b8 n hn
  obtain ⟨k0, k1, k2, k3, k4, k5, k6, k7, k8⟩ := hw.2.2.2.2.2.2.2.2.1 n hn
  refine ix_i n rfl (show n < 8 by omega) ?_
  refine c_indexOf_e e1 hc hb (by omega) (fun k hk hkx _ => ?_) (fun q => absurd k2.symm (q k0 (by omega)))
  have : k = k0 := by
    have hd := hw.2.2.2.2.2.2.1
    rcases Nat.lt_trichotomy k k0 with q | q | q
    · exact absurd (hkx.trans k2) (hd k k0 q (by omega))
    · exact q
    · exact absurd (hkx.trans k2).symm (hd k0 k q hk)
  subst this
  refine And.intro (fun q => absurd q (nI_pos (by omega))) (fun _ => ?_)
  refine And.intro (fun _ => ?_) (fun q => by rw [h21, nI_sub1 (by omega) (by omega)] at q; omega)
  have hbk1 : D (46 + k + 1) < 7 := b7 (k + 1) k1
  have et : M.1 15 c (k + 1) = nI (D (46 + k + 1)) := hc.2.2.2.2.1 (k + 1) k1
  obtain ⟨-, s6, s7, s8, s9⟩ := (hs k (by omega)).1 k1
  have sh : ab_shl (nI 1) (nI n) = nI (2 ^ n) := nI_shl1 (by omega)
  have cA : ∀ b, (wy D k || (decide (D (46 + k + 1) < D (61 + n)) == b)) = true → cnd D b k n = true := fun b q => by unfold cnd; rw [q, Bool.and_true]; simpa using k2
  have cB : ∀ b, (wy D k || (decide (D (46 + k + 1) < D (61 + n)) == b)) = false → cnd D b k n = false := fun b q => by unfold cnd; rw [q, Bool.and_false]
  refine c_isWindy (D := D) hc hb (by omega) (fun _ qw => ?_) (fun qw => ?_)
  · have wz : wy D k = true := wy_1 qw
    refine ix_i n rfl (show n < 8 by omega) ?_
    refine ix_i (k + 1) (by simp only [nI_add]) (show k + 1 < 7 by omega) ?_
    refine And.intro (fun ql => ?_) (fun ql => ?_)
    · rw [e2, et] at ql
      have ql := nle_use ql
      have rl : decide (D (46 + k + 1) < D (61 + n)) = true := by simp; omega
      refine ix_i k rfl (show k < 7 by omega) ?_
      refine ix_i k rfl (show k < 7 by omega) ?_
      refine ix_i k rfl (show k < 7 by omega) ?_
      refine ix_i k rfl (show k < 7 by omega) ?_
      refine ix_i n rfl (show n < 8 by omega) ?_
      refine ix_i k rfl (show k < 7 by omega) ?_
      refine ix_i k rfl (show k < 7 by omega) ?_
      refine ix_i k rfl (show k < 7 by omega) ?_
      refine ix_i k rfl (show k < 7 by omega) ?_
      refine ix_i n rfl (show n < 8 by omega) ?_
      refine ix_i k rfl (show k < 7 by omega) ?_
      refine hK _ (frK_S (k := k) (frK_sI (frK_sI (frK_sI (frK_sI (frK_sI (frK_refl) (by omega) (by omega)) (by omega) (by omega)) (by omega) (by omega)) (by omega) (by omega)) (by omega) (by omega))) (svP_step hw hs k1 k2 (frK_sI (frK_sI (frK_sI (frK_sI (frK_sI (frK_refl) (by omega) (by omega)) (by omega) (by omega)) (by omega) (by omega)) (by omega) (by omega)) (by omega) (by omega)) (by simp [ab_sI]; rfl) ?_ ?_ ?_ ?_)
      · rw [bs_s1 (cA false (by rw [wz]; rfl)), ← s6, ← sh]; simp [ab_sI]
      · rw [los_s1 (cA false (by rw [wz]; rfl)), ← s7, ← e3]; simp [ab_sI]
      · rw [bs_s1 (cA true (by rw [wz]; rfl)), ← s8, ← sh]; simp [ab_sI]
      · rw [los_s1 (cA true (by rw [wz]; rfl)), ← s9, ← e3]; simp [ab_sI]
    · rw [e2, et] at ql
      have ql := nlt_use ql
      have rl : decide (D (46 + k + 1) < D (61 + n)) = false := by simp; omega
      refine ix_i k rfl (show k < 7 by omega) ?_
      refine ix_i k rfl (show k < 7 by omega) ?_
      refine ix_i k rfl (show k < 7 by omega) ?_
      refine ix_i k rfl (show k < 7 by omega) ?_
      refine ix_i n rfl (show n < 8 by omega) ?_
      refine ix_i k rfl (show k < 7 by omega) ?_
      refine ix_i k rfl (show k < 7 by omega) ?_
      refine ix_i k rfl (show k < 7 by omega) ?_
      refine ix_i k rfl (show k < 7 by omega) ?_
      refine ix_i n rfl (show n < 8 by omega) ?_
      refine ix_i k rfl (show k < 7 by omega) ?_
      refine hK _ (frK_S (k := k) (frK_sI (frK_sI (frK_sI (frK_sI (frK_sI (frK_refl) (by omega) (by omega)) (by omega) (by omega)) (by omega) (by omega)) (by omega) (by omega)) (by omega) (by omega))) (svP_step hw hs k1 k2 (frK_sI (frK_sI (frK_sI (frK_sI (frK_sI (frK_refl) (by omega) (by omega)) (by omega) (by omega)) (by omega) (by omega)) (by omega) (by omega)) (by omega) (by omega)) (by simp [ab_sI]; rfl) ?_ ?_ ?_ ?_)
      · rw [bs_s1 (cA false (by rw [wz]; rfl)), ← s6, ← sh]; simp [ab_sI]
      · rw [los_s1 (cA false (by rw [wz]; rfl)), ← s7, ← e3]; simp [ab_sI]
      · rw [bs_s1 (cA true (by rw [wz]; rfl)), ← s8, ← sh]; simp [ab_sI]
      · rw [los_s1 (cA true (by rw [wz]; rfl)), ← s9, ← e3]; simp [ab_sI]
  · have wz : wy D k = false := by unfold wy; simp; exact fun w => qw ⟨k1, w⟩
    refine ix_i n rfl (show n < 8 by omega) ?_
    refine ix_i (k + 1) (by simp only [nI_add]) (show k + 1 < 7 by omega) ?_
    refine And.intro (fun ql => ?_) (fun ql => ?_)
    · rw [e2, et] at ql
      have ql := nle_use ql
      have rl : decide (D (46 + k + 1) < D (61 + n)) = true := by simp; omega
      refine ix_i k rfl (show k < 7 by omega) ?_
      refine ix_i k rfl (show k < 7 by omega) ?_
      refine ix_i k rfl (show k < 7 by omega) ?_
      refine ix_i k rfl (show k < 7 by omega) ?_
      refine ix_i n rfl (show n < 8 by omega) ?_
      refine ix_i k rfl (show k < 7 by omega) ?_
      refine hK _ (frK_S (k := k) (frK_sI (frK_sI (frK_sI (frK_refl) (by omega) (by omega)) (by omega) (by omega)) (by omega) (by omega))) (svP_step hw hs k1 k2 (frK_sI (frK_sI (frK_sI (frK_refl) (by omega) (by omega)) (by omega) (by omega)) (by omega) (by omega)) (by simp [ab_sI]; rfl) ?_ ?_ ?_ ?_)
      · rw [bs_e0 (cB false (by rw [wz, rl]; rfl)), ← s6]; simp [ab_sI]
      · rw [los_s0 (cB false (by rw [wz, rl]; rfl)), ← s7]; simp [ab_sI]
      · rw [bs_s1 (cA true (by rw [wz, rl]; rfl)), ← s8, ← sh]; simp [ab_sI]
      · rw [los_s1 (cA true (by rw [wz, rl]; rfl)), ← s9, ← e3]; simp [ab_sI]
    · rw [e2, et] at ql
      have ql := nlt_use ql
      have rl : decide (D (46 + k + 1) < D (61 + n)) = false := by simp; omega
      refine ix_i k rfl (show k < 7 by omega) ?_
      refine ix_i k rfl (show k < 7 by omega) ?_
      refine ix_i k rfl (show k < 7 by omega) ?_
      refine ix_i k rfl (show k < 7 by omega) ?_
      refine ix_i n rfl (show n < 8 by omega) ?_
      refine ix_i k rfl (show k < 7 by omega) ?_
      refine hK _ (frK_S (k := k) (frK_sI (frK_sI (frK_sI (frK_refl) (by omega) (by omega)) (by omega) (by omega)) (by omega) (by omega))) (svP_step hw hs k1 k2 (frK_sI (frK_sI (frK_sI (frK_refl) (by omega) (by omega)) (by omega) (by omega)) (by omega) (by omega)) (by simp [ab_sI]; rfl) ?_ ?_ ?_ ?_)
      · rw [bs_s1 (cA false (by rw [wz, rl]; rfl)), ← s6, ← sh]; simp [ab_sI]
      · rw [los_s1 (cA false (by rw [wz, rl]; rfl)), ← s7, ← e3]; simp [ab_sI]
      · rw [bs_e0 (cB true (by rw [wz, rl]; rfl)), ← s8]; simp [ab_sI]
      · rw [los_s0 (cB true (by rw [wz, rl]; rfl)), ← s9]; simp [ab_sI]
theorem c_begin {H : Nat} {kd : Nat → Nat} (hl : ldC M l D) (hc : crC M c D) (hw : wf D) (hd : hdC M H kd) (hH : H ≤ 4) (hK : ∀ M', frS 21 38 M M' → hdC M' H kd → M'.1 21 0 1 = nI (D 4) → (∀ k, k < D 4 → svP D M' k (D 5)) → M'.1 30 0 0 = nI 0 → (∀ i, i < H → M'.1 32 i 0 = nI (D 3) ∧ (0 < D 4 → M'.1 34 i (D 4 - 1) = -9) ∧ M'.1 35 0 i = nI 0 ∧ M'.1 36 0 i = nI 0 ∧ M'.1 37 0 i = nI 0) → K none M') : ab_Call (d + 2) 6 [vr 21 0, vr 9 l, vr 14 c] M K := by
  refine caX0_begin rfl (atX0_begin ?_)
  have hb := bnd_of hw
  have hb' := hb
  obtain ⟨b3, b4, b5, b6, b7, b8⟩ := hb'
  have third : ∀ j, j ≤ H → ∀ M', frS 21 38 M M' → hdC M' H kd → M'.1 21 0 1 = nI (D 4) → (∀ k, k < D 4 → svP D M' k (D 5)) → M'.1 30 0 0 = nI 0 → (∀ i, i < j → M'.1 32 i 0 = nI (D 3) ∧ (0 < D 4 → M'.1 34 i (D 4 - 1) = -9) ∧ M'.1 35 0 i = nI 0 ∧ M'.1 36 0 i = nI 0 ∧ M'.1 37 0 i = nI 0) → ab_At miX0_begin (d + 2) 62 [some (vr 21 0), none, some (vr 14 c), some (vi (nI j))] [] M' K := by
    refine up_ind fun j hj ih M' hf hd' h21 hs h30 hm => ?_
    refine atX0_begin ?_
    refine And.intro (fun h => ?_) (fun h => ?_)
    · rw [hd'.1] at h
      have : j = H := by have := nle_use h; omega
      subst this
      exact hK M' hf hd' h21 hs h30 hm
    · rw [hd'.1] at h
      have hjn := nlt_use h
      have hc' := frS_cr hf (by omega) hc
      have eh : M'.1 14 c 0 = nI (D 3) := hc'.1
      refine ix_i j rfl (show j < 4 by omega) ?_
      have fin : ∀ M'', frS 30 38 M' M'' → M''.1 30 0 0 = nI 0 → (∀ i, i < j + 1 → M''.1 32 i 0 = nI (D 3) ∧ (0 < D 4 → M''.1 34 i (D 4 - 1) = -9) ∧ M''.1 35 0 i = nI 0 ∧ M''.1 36 0 i = nI 0 ∧ M''.1 37 0 i = nI 0) → ab_At miX0_begin (d + 2) 62 [some (vr 21 0), none, some (vr 14 c), some (vi (nI j + nI 1))] [] M'' K := by
        intro M'' hf2 q30 hm2
        have := ih hjn M'' (frS_trans hf (frS_mono hf2 (by omega) (by omega))) (frS_hd hf2 (by omega) hd') (by rw [hf2.2 21 0 (by omega)]; exact h21) (fun k hk => svP_fr hf2 (by omega) (hs k hk)) q30 hm2
        rw [← nI_1] at this
        exact this
      refine And.intro (fun q => ?_) (fun q => ?_)
      · have q : nI (D 4) ≤ nI 0 := by rw [← h21]; exact q
        have q := nle_use q
        refine ix_i j rfl (show j < 4 by omega) ?_
        refine ix_i j rfl (show j < 4 by omega) ?_
        refine ix_i j rfl (show j < 4 by omega) ?_
        refine fin _ (frS_sI (frS_sI (frS_sI (frS_sI frS_refl (by omega) (by omega)) (by omega) (by omega)) (by omega) (by omega)) (by omega) (by omega)) h30 (fun i hi => ?_)
        by_cases e : i = j
        · subst e
          exact ⟨by simp [ab_sI, eh], fun w => by omega, by simp [ab_sI], by simp [ab_sI], by simp [ab_sI]⟩
        · obtain ⟨m1, m2, m3, m4, m5⟩ := hm i (by omega)
          exact ⟨by simp [ab_sI, e, m1], fun w => by omega, by simp [ab_sI, e, m3], by simp [ab_sI, e, m4], by simp [ab_sI, e, m5]⟩
      · have q : nI 0 < nI (D 4) := by rw [← h21]; exact q
        have q := nlt_use q
        refine ix_i j rfl (show j < 4 by omega) ?_
        refine ix_i (D 4 - 1) (by rw [← pk_sub (by omega), ← h21]; rfl) (show _ < 7 by omega) ?_
        refine ix_i j rfl (show j < 4 by omega) ?_
        refine ix_i j rfl (show j < 4 by omega) ?_
        refine ix_i j rfl (show j < 4 by omega) ?_
        refine fin _ (frS_sI (frS_sI (frS_sI (frS_sI (frS_sI frS_refl (by omega) (by omega)) (by omega) (by omega)) (by omega) (by omega)) (by omega) (by omega)) (by omega) (by omega)) h30 (fun i hi => ?_)
        by_cases e : i = j
        · subst e
          exact ⟨by simp [ab_sI, eh], fun w => by simp [ab_sI]; rfl, by simp [ab_sI], by simp [ab_sI], by simp [ab_sI]⟩
        · obtain ⟨m1, m2, m3, m4, m5⟩ := hm i (by omega)
          exact ⟨by simp [ab_sI, e, m1], fun w => by simp [ab_sI, e, m2 w], by simp [ab_sI, e, m3], by simp [ab_sI, e, m4], by simp [ab_sI, e, m5]⟩
  have second : ∀ j, j ≤ D 5 → ∀ M', frS 21 29 M M' → hdC M' H kd → M'.1 21 0 1 = nI (D 4) → (∀ k, k < D 4 → svP D M' k j) → ab_At miX0_begin (d + 2) 33 [some (vr 21 0), none, some (vr 14 c), some (vi (nI j))] [] M' K := by
    refine up_ind fun j hj ih M' hf hd' h21 hs => ?_
    refine atX0_begin ?_
    have hc' := frS_cr hf (by omega) hc
    refine And.intro (fun h => ?_) (fun h => ?_)
    · rw [hc'.2.2.1] at h
      have : j = D 5 := by have := nle_use h; omega
      subst this
      have f30 : frS 30 38 M' (ab_sI M' 30 0 0 (nI 0)) := frS_sI frS_refl (by omega) (by omega)
      exact third 0 (Nat.zero_le _) (ab_sI M' 30 0 0 (nI 0)) (frS_trans (frS_mono hf (by omega) (by omega)) (frS_mono f30 (by omega) (by omega))) hd' h21 (fun k hk => svP_fr f30 (by omega) (hs k hk)) sI_eq (fun i hi => absurd hi (by omega))
    · rw [hc'.2.2.1] at h
      have hjn := nlt_use h
      refine c_surveyEnd hc' hw hjn h21 hs (fun M'' hf2 hs2 => ?_)
      have := ih hjn M'' (frS_trans hf (frS_mono hf2 (by omega) (by omega))) (frS_hd hf2 (by omega) hd') (by rw [hf2.2 21 0 (by omega)]; exact h21) hs2
      rw [← nI_1] at this
      exact this
  have first : ∀ j, j ≤ D 4 → ∀ M', frS 21 29 M M' → hdC M' H kd → M'.1 21 0 1 = nI (D 4) → (∀ k, k < j → svP D M' k 0) → ab_At miX0_begin (d + 2) 10 [some (vr 21 0), some (vr 9 l), some (vr 14 c), some (vi (nI j))] [] M' K := by
    refine up_ind fun j hj ih M' hf hd' h21 hs => ?_
    refine atX0_begin ?_
    have hc' := frS_cr hf (by omega) hc
    have hl' := frS_ld hf (by omega) hl
    refine And.intro (fun h => ?_) (fun h => ?_)
    · rw [h21] at h
      have : j = D 4 := by have := nle_use h; omega
      subst this
      exact second 0 (Nat.zero_le _) M' hf hd' h21 hs
    · rw [h21] at h
      have hjn := nlt_use h
      refine c_survey hl' hc' hb hjn h21 (fun M'' hf2 hs2 => ?_)
      have := ih hjn M'' (frS_trans hf (frS_mono (frK_S hf2) (by omega) (by omega))) (frS_hd (frK_S hf2) (by omega) hd') (by rw [(frK_S hf2).2 21 0 (by omega)]; exact h21) (fun k hk => by
        by_cases e : k = j
        · subst e; exact hs2
        · have := hs k (by omega)
          unfold svP at *
          rw [hf2.2 24 0 k (by omega), hf2.2 25 0 k (by omega), hf2.2 26 0 k (by omega), hf2.2 27 0 k (by omega), hf2.2 28 0 k (by omega), hf2.2 29 0 k (by omega)]
          exact this)
      rw [← nI_1] at this
      exact this
  have e : M.1 14 c 1 = nI (D 4) := hc.2.1
  have f0 : frS 21 29 M (ab_sI M 21 0 1 (M.1 14 c 1)) := frS_sI frS_refl (by omega) (by omega)
  exact first 0 (Nat.zero_le _) (ab_sI M 21 0 1 (M.1 14 c 1)) f0 hd (sI_eq.trans e) (fun k hk => absurd hk (by omega))
end Begin2
