/-! ===== memory but for some groups ===== -/
def frS (a b : Nat) (M M' : ab_M) : Prop := M'.2 = M.2 ∧ ∀ g i, ¬ (a ≤ g ∧ g ≤ b) → M'.1 g i = M.1 g i
theorem frS_refl {a b : Nat} {M : ab_M} : frS a b M M := ⟨rfl, fun _ _ _ => rfl⟩
theorem frS_trans {a b : Nat} {M M' M'' : ab_M} (h : frS a b M M') (h2 : frS a b M' M'') : frS a b M M'' := ⟨h2.1.trans h.1, fun g i q => (h2.2 g i q).trans (h.2 g i q)⟩
theorem frS_sI {a b g i k : Nat} {v : Int32} {M M' : ab_M} (h : frS a b M M') (h1 : a ≤ g) (h2 : g ≤ b) : frS a b M (ab_sI M' g i k v) :=
  ⟨h.1, fun g' i' q => by rw [sI_g (fun e => q (by omega))]; exact h.2 g' i' q⟩
theorem frS_nw {a b g o : Nat} {M M' : ab_M} {D : Nat → Nat} (h : frS a b M M') (hg : ¬ (a ≤ g ∧ g ≤ b)) (hn : nwM M g o D) : nwM M' g o D := fun k hk => by rw [h.2 g 0 hg]; exact hn k hk
theorem bs_ins (P : Nat → Bool) {n y : Nat} (hy : y < n) : bs P n ||| 2 ^ y = bs (fun j => P j || j == y) n := by
  apply Nat.eq_of_testBit_eq
  intro e
  rw [Nat.testBit_or, bs_tb, bs_tb, Nat.testBit_two_pow]
  by_cases h : y = e
  · subst h
    simp [hy]
  · have : (e == y) = false := by simp; omega
    simp [h, this]
section Runs
variable {d : Nat} {M : ab_M} {K : ab_K} {D : Nat → Nat}
def moI (D : Nat → Nat) (M : ab_M) (k : Nat) (P : Nat → Bool) : Prop :=
  (∀ i, i < D 1 → ∀ j, j < D 4 → (j ≤ k ∨ (j = k + 1 ∧ P i = true)) → M.1 59 0 (7 * i + j) = nI (cmv D (D 1) (kds D) j i)) ∧
  (∀ i, i < D 1 → ∀ j, j < D 4 → (j < k ∨ (j = k ∧ P i = true)) → M.1 60 0 (7 * i + j) = nI (lvv D (D 1) (kds D) j (cmv D (D 1) (kds D) j) i) ∧ M.1 61 0 (7 * i + j) = nI (b1 (cal D (D 1) (kds D) j (cmv D (D 1) (kds D) j) i)))
/-- what the reference knows behind its runs -/
def moO (D : Nat → Nat) (M : ab_M) : Prop :=
  (∀ i, i < D 1 → ∀ j, j < D 4 → M.1 59 0 (7 * i + j) = nI (cmv D (D 1) (kds D) j i)) ∧
  (∀ i, i < D 1 → ∀ j, j < D 4 → M.1 60 0 (7 * i + j) = nI (lvv D (D 1) (kds D) j (cmv D (D 1) (kds D) j) i) ∧ M.1 61 0 (7 * i + j) = nI (b1 (cal D (D 1) (kds D) j (cmv D (D 1) (kds D) j) i)))
theorem moI_ins {k y : Nat} {P : Nat → Bool} (hb4 : D 4 ≤ 7) (h : moI D M k P) (hy : y < D 1) (hk : k < D 4) : (k + 1 < D 4 → moI D (ab_sI (ab_sI (ab_sI M 61 0 (7 * y + k) (nI (b1 (cal D (D 1) (kds D) k (cmv D (D 1) (kds D) k) y)))) 60 0 (7 * y + k) (nI (lvv D (D 1) (kds D) k (cmv D (D 1) (kds D) k) y))) 59 0 (7 * y + k + 1) (nI (lvv D (D 1) (kds D) k (cmv D (D 1) (kds D) k) y + pce (kds D y) (sg D k)))) k (fun j => P j || j == y)) ∧ (¬ k + 1 < D 4 → moI D (ab_sI (ab_sI M 61 0 (7 * y + k) (nI (b1 (cal D (D 1) (kds D) k (cmv D (D 1) (kds D) k) y)))) 60 0 (7 * y + k) (nI (lvv D (D 1) (kds D) k (cmv D (D 1) (kds D) k) y))) k (fun j => P j || j == y)) := by
  have B : ∀ i, i < D 1 → ∀ j, j < D 4 → (j < k ∨ (j = k ∧ (P i || i == y) = true)) → (ab_sI (ab_sI M 61 0 (7 * y + k) (nI (b1 (cal D (D 1) (kds D) k (cmv D (D 1) (kds D) k) y)))) 60 0 (7 * y + k) (nI (lvv D (D 1) (kds D) k (cmv D (D 1) (kds D) k) y))).1 60 0 (7 * i + j) = nI (lvv D (D 1) (kds D) j (cmv D (D 1) (kds D) j) i) ∧ (ab_sI M 61 0 (7 * y + k) (nI (b1 (cal D (D 1) (kds D) k (cmv D (D 1) (kds D) k) y)))).1 61 0 (7 * i + j) = nI (b1 (cal D (D 1) (kds D) j (cmv D (D 1) (kds D) j) i)) := by
    intro i hi j hj q
    by_cases e : i = y ∧ j = k
    · obtain ⟨rfl, rfl⟩ := e
      exact ⟨sI_eq, sI_eq⟩
    · have ne : 7 * i + j ≠ 7 * y + k := fun w => e (by omega)
      rw [sI_k ne, sI_k ne, sI_k ne]
      have q2 : j < k ∨ (j = k ∧ P i = true) := by
        rcases q with q | ⟨q, q3⟩
        · exact Or.inl q
        · refine Or.inr ⟨q, ?_⟩
          have : (i == y) = false := by simp; omega
          rwa [this, Bool.or_false] at q3
      exact h.2 i hi j hj q2
  refine ⟨fun hk1 => ⟨fun i hi j hj q => ?_, fun i hi j hj q => B i hi j hj q⟩, fun hk1 => ⟨fun i hi j hj q => ?_, fun i hi j hj q => B i hi j hj q⟩⟩
  · by_cases e : i = y ∧ j = k + 1
    · obtain ⟨rfl, rfl⟩ := e
      exact sI_eq
    · have ne : 7 * i + j ≠ 7 * y + k + 1 := fun w => e (by omega)
      rw [sI_k ne]
      have q2 : j ≤ k ∨ (j = k + 1 ∧ P i = true) := by
        rcases q with q | ⟨q, q3⟩
        · exact Or.inl q
        · refine Or.inr ⟨q, ?_⟩
          have : (i == y) = false := by simp; omega
          have q3 : (P i || i == y) = true := q3
          rwa [this, Bool.or_false] at q3
      exact h.1 i hi j hj q2
  · exact h.1 i hi j hj (Or.inl (by omega))
theorem m_runs (hn : nwM M 54 0 D) (hw : wf D) (hK : ∀ M', frS 59 61 M M' → moO D M' → K none M') : ab_Call (d + 4) 199 [vr 49 0] M K := by
  refine caX10_runs rfl (atX10_runs ?_)
  have hb := bnd_of hw
  have hb' := hb
  obtain ⟨b3, b4, b5, b6, b7, b8⟩ := hb'
  have w1 : D 1 ≤ 4 := hw.1.2.1
  have spot : ∀ y k : Nat, nI 7 * nI y + nI k = nI (7 * y + k) := fun y k => by simp only [pk_mul, nI_add]
  have out : ∀ k, k ≤ D 4 → ∀ M', frS 59 61 M M' → moI D M' k (fun _ => false) → ab_At miX10_runs (d + 4) 35 [some (vr 49 0), some (vi (nI k))] [] M' K := by
    refine up_ind fun k hk ih M' hf hm => ?_
    refine atX10_runs ?_
    have hn' : nwM M' 54 0 D := frS_nw hf (by omega) hn
    refine And.intro (fun h => ?_) (fun h => ?_)
    · rw [nw hn' (by omega)] at h
      have : k = D 4 := by have := nle_use h; omega
      subst this
      exact hK M' hf ⟨fun i hi j hj => hm.1 i hi j hj (Or.inl (by omega)), fun i hi j hj => hm.2 i hi j hj (Or.inl (by omega))⟩
    · rw [nw hn' (by omega)] at h
      have hkn := nlt_use h
      have cle : ∀ i, cmv D (D 1) (kds D) k i < 1000 := fun i => by have := cmv_le hw (H := D 1) (kd := kds D) (i := i) k; omega
      have mid : ∀ t, t ≤ D 1 → ∀ M' P x, frS 59 61 M M' → moI D M' k P → sm (fun i => if P i then 1 else 0) (D 1) = t → (∀ i, i < D 1 → ∀ j, j < D 1 → P i = true → bef (cmv D (D 1) (kds D) k) j i = true → P j = true) → lsI D (D 1) (kds D) k (cmv D (D 1) (kds D) k) (fun j => P j = true) x → x ≤ 1000000 → ab_At miX10_runs (d + 4) 53 [some (vr 49 0), some (vi (nI k)), some (vi (nI (bs P (D 1)))), some (vi (nI x)), some (vi (nI t))] [] M' K := by
        refine up_ind fun t ht ih2 M' P x hf hm hs hdc hls hx => ?_
        refine atX10_runs ?_
        have hn' : nwM M' 54 0 D := frS_nw hf (by omega) hn
        refine And.intro (fun h => ?_) (fun h => ?_)
        · rw [nw hn' (by omega)] at h
          have : t = D 1 := by have := nle_use h; omega
          subst this
          have full := sm_full hs
          have := ih hkn M' hf ⟨fun i hi j hj q => by
            rcases q with q | ⟨-, q⟩
            · exact hm.1 i hi j hj (by have := full i hi; by_cases e : j = k + 1; exact Or.inr ⟨e, this⟩; exact Or.inl (by omega))
            · exact Bool.noConfusion q, fun i hi j hj q => by
            rcases q with q | ⟨-, q⟩
            · exact hm.2 i hi j hj (by have := full i hi; by_cases e : j = k; exact Or.inr ⟨e, this⟩; exact Or.inl (by omega))
            · exact Bool.noConfusion q⟩
          rw [← nI_1] at this
          exact this
        · rw [nw hn' (by omega)] at h
          have htn := nlt_use h
          have hP8 : bs P (D 1) < 2 ^ 8 := Nat.lt_of_lt_of_le (bs_lt P (D 1)) (Nat.pow_le_pow_right (by omega) (by omega))
          have inner : ∀ i, i ≤ D 1 → ∀ f : Int32, ((f = -1 ∧ ∀ j, j < i → P j = true) ∨ ∃ y, y < i ∧ f = nI y ∧ P y = false ∧ ∀ j, j < i → P j = false → j ≠ y → bef (cmv D (D 1) (kds D) k) y j = true) → ab_At miX10_runs (d + 4) 70 [some (vr 49 0), some (vi (nI k)), some (vi (nI (bs P (D 1)))), some (vi (nI x)), some (vi (nI t)), some (vi f), some (vi (nI i))] [] M' K := by
            refine up_ind fun i hi ih3 f hfx => ?_
            refine atX10_runs ?_
            refine And.intro (fun h => ?_) (fun h => ?_)
            · rw [nw hn' (by omega)] at h
              have : i = D 1 := by have := nle_use h; omega
              subst this
              rcases hfx with ⟨-, hfx⟩ | ⟨y, hy, rfl, hyP, hyb⟩
              · obtain ⟨z, z1, z2⟩ := sm_some (by rw [hs]; exact htn)
                rw [hfx z z1] at z2
                exact absurd z2 (by decide)
              · have hPb : ∀ j, j < D 1 → (P j = true ↔ bef (cmv D (D 1) (kds D) k) j y = true) := by
                  intro j hj
                  constructor
                  · intro q
                    refine bef_tot (fun w => ?_) (fun w => by rw [w, q] at hyP; exact absurd hyP (by decide))
                    have := hdc j hj y hy q w
                    rw [this] at hyP
                    exact absurd hyP (by decide)
                  · intro q
                    by_cases e : P j = true
                    · exact e
                    · have e : P j = false := by simpa using e
                      have := hyb j hj e (fun w => by rw [w, bef_iff] at q; omega)
                      exact absurd this (bef_asym q)
                have mi := moI_ins b4 hm hy hkn
                have after : ∀ M'', frS 59 61 M M'' → moI D M'' k (fun j => P j || j == y) → M''.1 60 0 (7 * y + k) = nI (lvv D (D 1) (kds D) k (cmv D (D 1) (kds D) k) y) → ∀ x' (v : Int32), v = nI x' → x' = min x (lvv D (D 1) (kds D) k (cmv D (D 1) (kds D) k) y) → ab_At miX10_runs (d + 4) 53 [some (vr 49 0), some (vi (nI k)), some (vi (nI (bs P (D 1)) ||| ab_shl (nI 1) (nI y))), some (vi v), some (vi (nI t + nI 1))] [] M'' K := by
                  intro M'' hf2 hm2 h60 x' v hv hx'
                  subst hv
                  have := ih2 htn M'' (fun j => P j || j == y) x' hf2 hm2 (by rw [sm_ins hy hyP (fun _ _ => rfl), hs]) (by
                    intro i hi j hj q q2
                    simp only [Bool.or_eq_true, beq_iff_eq] at q ⊢
                    rcases q with q | q
                    · exact Or.inl (hdc i hi j hj q q2)
                    · subst q
                      exact Or.inl ((hPb j hj).mpr q2)) (by
                    rw [hx']
                    exact lsI_s hls hy (fun j hj => by simp)) (by omega)
                  rw [← nI_1, ← bs_ins P hy, ← nI_or, ← nI_shl1 (by omega)] at this
                  exact this
                have hcy := cle y
                have hlv := lvv_le hb (H := D 1) (kd := kds D) (k := k) (c := cmv D (D 1) (kds D) k) (i := y)
                refine m_leavesIt hn' hw hy hkn hcy (by omega) (hm.1 y hy k hkn (Or.inl (Nat.le_refl _))) (lsI_cal hls (by omega) hPb) (fun q9 => ?_) (fun q9 => ?_)
                · have hf3 := frS_sI (frS_sI (frS_sI hf (g := 61) (i := 0) (k := 7 * y + k) (v := nI (b1 (cal D (D 1) (kds D) k (cmv D (D 1) (kds D) k) y))) (by omega) (by omega)) (g := 60) (i := 0) (k := 7 * y + k) (v := nI (lvv D (D 1) (kds D) k (cmv D (D 1) (kds D) k) y)) (by omega) (by omega)) (g := 59) (i := 0) (k := 7 * y + k + 1) (v := nI (lvv D (D 1) (kds D) k (cmv D (D 1) (kds D) k) y + pce (kds D y) (sg D k))) (by omega) (by omega)
                  have e60 : (ab_sI (ab_sI (ab_sI M' 61 0 (7 * y + k) (nI (b1 (cal D (D 1) (kds D) k (cmv D (D 1) (kds D) k) y)))) 60 0 (7 * y + k) (nI (lvv D (D 1) (kds D) k (cmv D (D 1) (kds D) k) y))) 59 0 (7 * y + k + 1) (nI (lvv D (D 1) (kds D) k (cmv D (D 1) (kds D) k) y + pce (kds D y) (sg D k)))).1 60 0 (7 * y + k) = nI (lvv D (D 1) (kds D) k (cmv D (D 1) (kds D) k) y) := sI_eq (g := 60)
                  refine ix_i (7 * y + k) (spot y k) (show _ < 28 by omega) ?_
                  refine And.intro (fun q => ?_) (fun q => ?_)
                  · have q : nI x ≤ nI (lvv D (D 1) (kds D) k (cmv D (D 1) (kds D) k) y) := by rw [← e60]; exact q
                    have q := nle_use q
                    exact after _ hf3 (mi.1 q9) e60 x _ rfl (by omega)
                  · have q : nI (lvv D (D 1) (kds D) k (cmv D (D 1) (kds D) k) y) < nI x := by rw [← e60]; exact q
                    have q := nlt_use q
                    refine ix_i (7 * y + k) (spot y k) (show _ < 28 by omega) ?_
                    exact after _ hf3 (mi.1 q9) e60 _ _ e60 (by omega)
                · have hf3 := frS_sI (frS_sI hf (g := 61) (i := 0) (k := 7 * y + k) (v := nI (b1 (cal D (D 1) (kds D) k (cmv D (D 1) (kds D) k) y))) (by omega) (by omega)) (g := 60) (i := 0) (k := 7 * y + k) (v := nI (lvv D (D 1) (kds D) k (cmv D (D 1) (kds D) k) y)) (by omega) (by omega)
                  have e60 : (ab_sI (ab_sI M' 61 0 (7 * y + k) (nI (b1 (cal D (D 1) (kds D) k (cmv D (D 1) (kds D) k) y)))) 60 0 (7 * y + k) (nI (lvv D (D 1) (kds D) k (cmv D (D 1) (kds D) k) y))).1 60 0 (7 * y + k) = nI (lvv D (D 1) (kds D) k (cmv D (D 1) (kds D) k) y) := sI_eq (g := 60)
                  refine ix_i (7 * y + k) (spot y k) (show _ < 28 by omega) ?_
                  refine And.intro (fun q => ?_) (fun q => ?_)
                  · have q : nI x ≤ nI (lvv D (D 1) (kds D) k (cmv D (D 1) (kds D) k) y) := by rw [← e60]; exact q
                    have q := nle_use q
                    exact after _ hf3 (mi.2 q9) e60 x _ rfl (by omega)
                  · have q : nI (lvv D (D 1) (kds D) k (cmv D (D 1) (kds D) k) y) < nI x := by rw [← e60]; exact q
                    have q := nlt_use q
                    refine ix_i (7 * y + k) (spot y k) (show _ < 28 by omega) ?_
                    exact after _ hf3 (mi.2 q9) e60 _ _ e60 (by omega)
            · rw [nw hn' (by omega)] at h
              have hin := nlt_use h
              have eb : ab_shr (nI (bs P (D 1))) (nI i) &&& nI 1 = nI (b1 (P i)) := by rw [nI_bit (by omega) (by omega), bs_wb P hin]; rfl
              have keep : ((f = -1 ∧ ∀ j, j < i + 1 → P j = true) ∨ ∃ y, y < i + 1 ∧ f = nI y ∧ P y = false ∧ ∀ j, j < i + 1 → P j = false → j ≠ y → bef (cmv D (D 1) (kds D) k) y j = true) → ab_At miX10_runs (d + 4) 70 [some (vr 49 0), some (vi (nI k)), some (vi (nI (bs P (D 1)))), some (vi (nI x)), some (vi (nI t)), some (vi f), some (vi (nI i + nI 1))] [] M' K := by
                intro w
                have := ih3 hin f w
                rw [← nI_1] at this
                exact this
              have new : P i = false → (∀ j, j < i → P j = false → bef (cmv D (D 1) (kds D) k) i j = true) → ab_At miX10_runs (d + 4) 70 [some (vr 49 0), some (vi (nI k)), some (vi (nI (bs P (D 1)))), some (vi (nI x)), some (vi (nI t)), some (vi (nI i)), some (vi (nI i + nI 1))] [] M' K := by
                intro w w2
                have := ih3 hin (nI i) (Or.inr ⟨i, by omega, rfl, w, fun j hj q q2 => w2 j (by omega) q⟩)
                rw [← nI_1] at this
                exact this
              refine And.intro (fun q => ?_) (fun q => ?_)
              · rw [eb] at q
                have q := b1_1 q
                refine keep ?_
                rcases hfx with ⟨hf1, hfx⟩ | ⟨y, hy, hf1, hyP, hyb⟩
                · exact Or.inl ⟨hf1, fun j hj => by by_cases e : j = i; exact e ▸ q; exact hfx j (by omega)⟩
                · exact Or.inr ⟨y, by omega, hf1, hyP, fun j hj q2 q3 => by
                    by_cases e : j = i
                    · subst e; rw [q] at q2; exact absurd q2 (by decide)
                    · exact hyb j (by omega) q2 q3⟩
              · rw [eb] at q
                have q := b1_0 q
                refine And.intro (fun q2 => ?_) (fun q2 => ?_)
                · refine new q (fun j hj q3 => ?_)
                  rcases hfx with ⟨hf1, hfx⟩ | ⟨y, hy, hf1, hyP, hyb⟩
                  · rw [hfx j hj] at q3; exact absurd q3 (by decide)
                  · exact absurd q2 (neg_no hf1 (by omega))
                · rcases hfx with ⟨hf1, hfx⟩ | ⟨y, hy, hf1, hyP, hyb⟩
                  · exact absurd (neg_m1 hf1) (fun w => i_lt_le w q2)
                  · have ei := hm.1 i hin k hkn (Or.inl (Nat.le_refl _))
                    have ey := hm.1 y (by omega) k hkn (Or.inl (Nat.le_refl _))
                    have ci := cle i
                    have cy := cle y
                    refine ix_i (7 * i + k) (spot i k) (show _ < 28 by omega) ?_
                    refine ix_i (7 * y + k) (by rw [hf1]; exact spot y k) (show _ < 28 by omega) ?_
                    refine And.intro (fun q4 => ?_) (fun q4 => ?_)
                    · rw [ei, ey] at q4
                      have q4 := nle_use q4
                      refine keep (Or.inr ⟨y, by omega, hf1, hyP, fun j hj q5 q6 => ?_⟩)
                      by_cases e : j = i
                      · subst e; rw [bef_iff]; omega
                      · exact hyb j (by omega) q5 q6
                    · rw [ei, ey] at q4
                      have q4 := nlt_use q4
                      refine new q (fun j hj q5 => ?_)
                      rw [bef_iff]
                      by_cases e : j = y
                      · subst e; omega
                      · have := hyb j hj q5 e
                        rw [bef_iff] at this
                        omega
          exact inner 0 (Nat.zero_le _) (-1) (Or.inl ⟨rfl, fun j hj => absurd hj (by omega)⟩)
      have := mid 0 (Nat.zero_le _) M' (fun _ => false) 1000000 hf hm (sm_zero (fun _ _ => rfl)) (fun i _ j _ q => absurd q (by decide)) (lsI_0 (fun j _ => by decide)) (by omega)
      rw [bs_none (fun _ _ => rfl)] at this
      exact this
  have init : ∀ j, j ≤ D 1 → ∀ M', frS 59 61 M M' → (∀ i, i < j → M'.1 59 0 (7 * i) = nI (D 3)) → ab_At miX10_runs (d + 4) 2 [some (vr 49 0), some (vi (nI j))] [] M' K := by
    refine up_ind fun j hj ih M' hf hm => ?_
    refine atX10_runs ?_
    have hn' : nwM M' 54 0 D := frS_nw hf (by omega) hn
    refine And.intro (fun h => ?_) (fun h => ?_)
    · rw [nw hn' (by omega)] at h
      have : j = D 1 := by have := nle_use h; omega
      subst this
      refine out 0 (Nat.zero_le _) M' hf ⟨fun i hi j hj q => ?_, fun i hi j hj q => ?_⟩
      · rcases q with q | ⟨-, q⟩
        · have : j = 0 := by omega
          subst this
          exact hm i hi
        · exact Bool.noConfusion q
      · rcases q with q | ⟨-, q⟩
        · omega
        · exact Bool.noConfusion q
    · rw [nw hn' (by omega)] at h
      have hjn := nlt_use h
      refine ix_i (7 * j) (by simp only [pk_mul]) (show _ < 28 by omega) ?_
      have := ih hjn (ab_sI M' 59 0 (7 * j) (M'.1 54 0 3)) (frS_sI hf (by omega) (by omega)) (fun i hi => by
        by_cases e : i = j
        · subst e
          rw [sI_eq]
          exact nw hn' (by omega)
        · rw [sI_k (by omega)]
          exact hm i (by omega))
      rw [← nI_1] at this
      exact this
  exact init 0 (Nat.zero_le _) M frS_refl (fun i hi => absurd hi (by omega))
end Runs
