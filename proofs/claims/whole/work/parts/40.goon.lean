/-! ===== the class's chase: on and on ===== -/
def lsf (D : Nat → Nat) (H : Nat) (kd : Nat → Nat) (i j : Nat) : Nat := if cal D H kd j (cmv D H kd j) i then 0 else lo D (kd i) j
def trd (D : Nat → Nat) (H : Nat) (kd : Nat → Nat) (i k e : Nat) : Bool := exb (fun j => tp D H kd j (cmv D H kd j) i e) k
def chI (D : Nat → Nat) (H : Nat) (kd : Nat → Nat) (M : ab_M) (k : Nat) : Prop :=
  (∀ j, j < D 4 → j ≤ k → M.1 30 0 j = nI (hrs D j)) ∧
  (∀ i, i < H → ∀ j, j < D 4 → j ≤ k → M.1 32 i j = nI (cmv D H kd j i)) ∧
  (∀ i, i < H → ∀ j, j < D 4 → j < k → M.1 34 i j = nI (lvv D H kd j (cmv D H kd j) i)) ∧
  (∀ i, i < H → 0 < D 4 → M.1 34 i (D 4 - 1) = -9) ∧
  (∀ i, i < H → M.1 35 0 i = nI (sm (lsf D H kd i) k) ∧ M.1 36 0 i = nI (sm (fun j => b1 (cal D H kd j (cmv D H kd j) i)) k) ∧ M.1 37 0 i = nI (bs (trd D H kd i k) (D 5)))
def chS (D : Nat → Nat) (H : Nat) (kd : Nat → Nat) (M : ab_M) : Prop := hdC M H kd ∧ M.1 21 0 1 = nI (D 4) ∧ ∀ k, k < D 4 → svP D M k (D 5)
theorem frS_chS {a b H : Nat} {kd D : Nat → Nat} {M M' : ab_M} (h : frS a b M M') (h2 : 29 < a) (hs : chS D H kd M) : chS D H kd M' :=
  ⟨frS_hd h (by omega) hs.1, by rw [h.2 21 0 (by omega)]; exact hs.2.1, fun k hk => svP_fr h h2 (hs.2.2 k hk)⟩
theorem cnd_nck {D : Nat → Nat} {b : Bool} {k e : Nat} (h : ck D k = false) (hk : k + 1 < D 4) (he : e < D 5) : cnd D b k e = false := by
  unfold ck at h
  simp only [hk, decide_true, Bool.true_and, Bool.or_eq_false_iff] at h
  have h2 : ¬ D (53 + e) = D (46 + k) := fun q => by
    have : exb (fun e => decide (D (53 + e) = D (46 + k))) (D 5) = true := exb_iff.mpr ⟨e, he, by simpa using q⟩
    rw [this] at h
    exact absurd h.2 (by decide)
  unfold cnd
  rw [show decide (D (53 + e) = D (46 + k)) = false by simpa using h2, Bool.false_and]
theorem cal_nck {D : Nat → Nat} {H : Nat} {kd : Nat → Nat} {k : Nat} {c : Nat → Nat} {i : Nat} (h : ck D k = false) : cal D H kd k c i = false := by
  unfold cal
  rw [h, Bool.and_false, Bool.false_and]
theorem lo_nck {D : Nat → Nat} {kd k : Nat} (h : ck D k = false) : lo D kd k = 0 := by
  unfold lo
  rw [h]
  rfl
section GoOn
variable {d c l : Nat} {M : ab_M} {K : ab_K} {D : Nat → Nat} {H : Nat} {kd : Nat → Nat}
theorem c_pace_e {a m : Nat} {v w : Int32} (hv : v = nI a) (hw : w = nI m) (hk : a ≤ 5) (hm : m ≤ 9) (hK : K (some (vi (nI (pce a m)))) M) : ab_Call (d + 1) 45 [vi v, vi w] M K := by
  subst hv
  subst hw
  exact c_pace hk hm hK
theorem c_goOn {k : Nat} (hw : wf D) (hS : chS D H kd M) (hI : chI D H kd M k) (hH : H ≤ 4) (hkd : ∀ i, i < H → kd i ≤ 5) (hk : k + 1 < D 4) (hK : ∀ M', frS 30 38 M M' → chI D H kd M' (k + 1) → K none M') : ab_Call (d + 2) 9 [vr 21 0, vi (nI k)] M K := by
  refine caX0_goOn rfl (atX0_goOn ?_)
  have hb := bnd_of hw
  have h4 : D 4 ≤ 7 := hb.2.1
  obtain ⟨i1, i2, i3, i4, i5⟩ := hI
  obtain ⟨s24, -⟩ := (hS.2.2 k (by omega)).1 hk
  have s25 := (hS.2.2 k (by omega)).2
  have e25 : M.1 25 0 k = nI (b1 (ck D k)) := s25
  have e30 : M.1 30 0 k = nI (hrs D k) := i1 k (by omega) (Nat.le_refl _)
  have main : ∀ M1, frS 30 38 M M1 → (∀ j, j < D 4 → j ≤ k + 1 → M1.1 30 0 j = nI (hrs D j)) → (∀ i, M1.1 32 i = M.1 32 i) → (∀ i j, j ≠ k → M1.1 34 i j = M.1 34 i j) → (ck D k = true → ∀ i, i < H → M1.1 34 i k = nI (lvv D H kd k (cmv D H kd k) i)) → (∀ i, i < H → M1.1 35 0 i = nI (sm (lsf D H kd i) (k + 1)) ∧ M1.1 36 0 i = nI (sm (fun j => b1 (cal D H kd j (cmv D H kd j) i)) (k + 1)) ∧ M1.1 37 0 i = nI (bs (trd D H kd i (k + 1)) (D 5))) → ab_At miX0_goOn (d + 2) 37 [some (vr 21 0), some (vi (nI k)), some (vi (nI 0))] [] M1 K := by
    intro M1 f1 a30 a32 a34 ack a5
    have key : ∀ j, j ≤ H → ∀ M', frS 32 34 M1 M' → (∀ i q, q ≠ k + 1 → M'.1 32 i q = M1.1 32 i q) → (∀ i q, q ≠ k → M'.1 34 i q = M1.1 34 i q) → (∀ i, i < j → M'.1 32 i (k + 1) = nI (cmv D H kd (k + 1) i) ∧ M'.1 34 i k = nI (lvv D H kd k (cmv D H kd k) i)) → (∀ i, j ≤ i → M'.1 34 i k = M1.1 34 i k) → ab_At miX0_goOn (d + 2) 37 [some (vr 21 0), some (vi (nI k)), some (vi (nI j))] [] M' K := by
      refine up_ind fun j hj ih M' hf g32 g34 gd gu => ?_
      refine atX0_goOn ?_
      have hf' : frS 30 38 M M' := frS_trans f1 (frS_mono hf (by omega) (by omega))
      have hS' := frS_chS hf' (by omega) hS
      refine And.intro (fun h => ?_) (fun h => ?_)
      · rw [hS'.1.1] at h
        have : j = H := by have := nle_use h; omega
        subst this
        refine hK M' hf' ⟨fun q q1 q2 => ?_, fun i hi q q1 q2 => ?_, fun i hi q q1 q2 => ?_, fun i hi q => ?_, fun i hi => ?_⟩
        · rw [hf.2 30 0 (by omega)]; exact a30 q q1 q2
        · by_cases e : q = k + 1
          · subst e; exact (gd i hi).1
          · rw [g32 i q e, a32]; exact i2 i hi q q1 (by omega)
        · by_cases e : q = k
          · subst e; exact (gd i hi).2
          · rw [g34 i q e, a34 i q e]; exact i3 i hi q q1 (by omega)
        · rw [g34 i _ (by omega), a34 i _ (by omega)]; exact i4 i hi q
        · rw [hf.2 35 0 (by omega), hf.2 36 0 (by omega), hf.2 37 0 (by omega)]; exact a5 i hi
      · rw [hS'.1.1] at h
        have hjn := nlt_use h
        have e25' : M'.1 25 0 k = nI (b1 (ck D k)) := by rw [hf'.2 25 0 (by omega)]; exact e25
        have e24' : M'.1 24 0 k = nI (sg D k) := by rw [hf'.2 24 0 (by omega)]; exact s24
        have e22' : M'.1 22 0 j = nI (kd j) := (hS'.1.2 j hjn).1
        have e32' : M'.1 32 j k = nI (cmv D H kd k j) := by rw [g32 j k (by omega), a32]; exact i2 j hjn k (by omega) (Nat.le_refl _)
        refine ix_i k rfl (show k < 7 by omega) ?_
        have fin : ∀ M2, frS 34 34 M' M2 → (∀ i q, ¬ (i = j ∧ q = k) → M2.1 34 i q = M'.1 34 i q) → M2.1 34 j k = nI (lvv D H kd k (cmv D H kd k) j) → ab_At miX0_goOn (d + 2) 37 [some (vr 21 0), some (vi (nI k)), some (vi (nI j + nI 1))] [] (ab_sI M2 32 j (k + 1) (M2.1 34 j k + nI (pce (kd j) (sg D k)))) K := by
          intro M2 f2 c34 v34
          have := ih hjn (ab_sI M2 32 j (k + 1) (M2.1 34 j k + nI (pce (kd j) (sg D k)))) (frS_sI (frS_trans hf (frS_mono f2 (by omega) (by omega))) (by omega) (by omega)) (fun i q w => by rw [sI_k w, f2.2 32 i (by omega)]; exact g32 i q w) (fun i q w => by rw [sI_g (by omega), c34 i q (fun z => w z.2)]; exact g34 i q w) (fun i hi => by
            by_cases e : i = j
            · subst e
              refine ⟨?_, ?_⟩
              · rw [sI_eq, v34, nI_add]; rfl
              · rw [sI_g (by omega)]; exact v34
            · have := gd i (by omega)
              refine ⟨?_, ?_⟩
              · rw [sI_i e, f2.2 32 i (by omega)]; exact this.1
              · rw [sI_g (by omega), c34 i k (fun z => e z.1)]; exact this.2) (fun i hi => by
            rw [sI_g (by omega), c34 i k (fun z => by omega)]; exact gu i (by omega))
          rw [← nI_1] at this
          exact this
        refine And.intro (fun q => ?_) (fun q => ?_)
        · rw [e25'] at q
          have q := b1_1 q
          refine ix_i j rfl (show j < 4 by omega) ?_
          refine ix_i j rfl (show j < 4 by omega) ?_
          refine ix_i k rfl (show k < 7 by omega) ?_
          refine ix_i j rfl (show j < 4 by omega) ?_
          refine ix_i k rfl (show k < 7 by omega) ?_
          refine c_pace_e e22' e24' (hkd j hjn) (sg_le hw.1 k) ?_
          refine ix_i (k + 1) (by simp only [nI_add]) (show k + 1 < 7 by omega) ?_
          exact fin M' frS_refl (fun _ _ _ => rfl) ((gu j (Nat.le_refl _)).trans (ack q j hjn))
        · rw [e25'] at q
          have q := b1_0 q
          refine ix_i j rfl (show j < 4 by omega) ?_
          refine ix_i j rfl (show j < 4 by omega) ?_
          refine ix_i k rfl (show k < 7 by omega) ?_
          refine ix_i k rfl (show k < 7 by omega) ?_
          refine ix_i j rfl (show j < 4 by omega) ?_
          refine ix_i j rfl (show j < 4 by omega) ?_
          refine ix_i k rfl (show k < 7 by omega) ?_
          refine ix_i j rfl (show j < 4 by omega) ?_
          refine ix_i k rfl (show k < 7 by omega) ?_
          refine c_pace_e e22' e24' (hkd j hjn) (sg_le hw.1 k) ?_
          refine ix_i (k + 1) (by simp only [nI_add]) (show k + 1 < 7 by omega) ?_
          exact fin (ab_sI M' 34 j k (M'.1 32 j k)) (frS_sI frS_refl (by omega) (by omega)) (fun i q w => sI_ne (fun z => w z.2)) (by
            rw [sI_eq, e32']
            unfold lvv
            rw [cal_nck q, lo_nck q]
            rfl)
    exact key 0 (Nat.zero_le _) M1 frS_refl (fun _ _ _ => rfl) (fun _ _ _ => rfl) (fun i hi => absurd hi (by omega)) (fun _ _ => rfl)
  refine ix_i k rfl (show k < 7 by omega) ?_
  refine ix_i k rfl (show k < 7 by omega) ?_
  refine ix_i (k + 1) (by simp only [nI_add]) (show k + 1 < 7 by omega) ?_
  refine ix_i k rfl (show k < 7 by omega) ?_
  have f0 : frS 30 30 M (ab_sI M 30 0 (k + 1) (M.1 30 0 k + M.1 24 0 k)) := frS_sI frS_refl (by omega) (by omega)
  have a30 : ∀ j, j < D 4 → j ≤ k + 1 → (ab_sI M 30 0 (k + 1) (M.1 30 0 k + M.1 24 0 k)).1 30 0 j = nI (hrs D j) := by
    intro j hj hj2
    by_cases e : j = k + 1
    · subst e; rw [sI_eq, e30, s24, nI_add]; rfl
    · rw [sI_k e]; exact i1 j hj (by omega)
  refine And.intro (fun q => ?_) (fun q => ?_)
  · have q : nI (b1 (ck D k)) = nI 0 := by rw [← e25]; exact q
    have q := b1_0 q
    refine main _ (frS_mono f0 (by omega) (by omega)) a30 (fun i => rfl) (fun _ _ _ => rfl) (fun w => by rw [q] at w; exact absurd w (by decide)) (fun i hi => ?_)
    obtain ⟨x1, x2, x3⟩ := i5 i hi
    refine ⟨x1.trans ?_, x2.trans ?_, x3.trans ?_⟩
    · rw [sm, show lsf D H kd i k = 0 by unfold lsf; rw [cal_nck q, lo_nck q]; rfl, Nat.add_zero]
    · rw [sm, cal_nck q]; rfl
    · congr 1
      refine bs_cong fun e he => ?_
      unfold trd
      rw [exb, show tp D H kd k (cmv D H kd k) i e = false by unfold tp; rw [cnd_nck q hk he, Bool.and_false], Bool.or_false]
  · have q : ¬ nI (b1 (ck D k)) = nI 0 := by rw [← e25]; exact q
    have q := b1_1 q
    have hS0 : chS D H kd (ab_sI M 30 0 (k + 1) (M.1 30 0 k + M.1 24 0 k)) := frS_chS f0 (by omega) hS
    refine c_leaveCheck hw hS0.1 hH hkd hk q (hS0.2.2 k (by omega)) (fun i hi => i2 i hi k (by omega) (Nat.le_refl _)) (fun i => by have := cmv_le hw (H := H) (kd := kd) (i := i) k; omega) (L := fun i => sm (lsf D H kd i) k) (Hh := fun i => sm (fun j => b1 (cal D H kd j (cmv D H kd j) i)) k) (T := fun i => bs (trd D H kd i k) (D 5)) i5 (fun M1 f1 g34 g => ?_)
    refine main M1 (frS_trans (frS_mono f0 (by omega) (by omega)) (frS_mono f1 (by omega) (by omega))) (fun j hj hj2 => by rw [f1.2 30 0 (by omega)]; exact a30 j hj hj2) (fun i => by rw [f1.2 32 i (by omega)]; rfl) (fun i j w => g34 i j w) (fun _ i hi => (g i hi).1) (fun i hi => ?_)
    obtain ⟨-, x1, x2, x3⟩ := g i hi
    refine ⟨x1, x2, x3.trans ?_⟩
    rw [bs_or]
    rfl
theorem c_isCaughtAt {k : Nat} {v : Int32} (hv : v = nI k) (hS : chS D H kd M) (hw : wf D) (hH : H ≤ 4) (hk : k < D 4) (h30 : M.1 30 0 k = nI (hrs D k)) (h32 : ∀ i, i < H → M.1 32 i k = nI (cmv D H kd k i)) (h1 : (∃ i, i < H ∧ cmv D H kd k i ≤ hrs D k) → K (some (.inl 1)) M) (h0 : (∀ i, i < H → hrs D k < cmv D H kd k i) → K (some (.inl 0)) M) : ab_Call d 13 [vr 21 0, vi v] M K := by
  subst hv
  refine caX0_isCaughtAt rfl (atX0_isCaughtAt ?_)
  have h4 : D 4 ≤ 7 := (bnd_of hw).2.1
  have hh := hrs_le hw.1 k
  have key : ∀ j, j ≤ H → (∀ i, i < j → hrs D k < cmv D H kd k i) → ab_At miX0_isCaughtAt d 2 [some (vr 21 0), some (vi (nI k)), some (vi (nI j))] [] M K := by
    refine up_ind fun j hj ih hno => ?_
    refine atX0_isCaughtAt ?_
    refine And.intro (fun h => ?_) (fun h => ?_)
    · rw [hS.1.1] at h
      have : j = H := by have := nle_use h; omega
      subst this
      exact h0 hno
    · rw [hS.1.1] at h
      have hjn := nlt_use h
      have hc := cmv_le hw (H := H) (kd := kd) (i := j) k
      refine ix_i j rfl (show j < 4 by omega) ?_
      refine ix_i k rfl (show k < 7 by omega) ?_
      refine ix_i k rfl (show k < 7 by omega) ?_
      refine And.intro (fun q => ?_) (fun q => ?_)
      · rw [h32 j hjn, h30] at q
        have q := nlt_use q
        have := ih hjn (fun i hi => by by_cases e : i = j; rw [e]; exact q; exact hno i (by omega))
        rw [← nI_1] at this
        exact this
      · rw [h32 j hjn, h30] at q
        exact h1 ⟨j, hjn, nle_use q⟩
  exact key 0 (Nat.zero_le _) (fun i hi => absurd hi (by omega))
/-- what the chase knows behind pursueAll -/
def chO (D : Nat → Nat) (H : Nat) (kd : Nat → Nat) (M : ab_M) : Prop := chS D H kd M ∧ chI D H kd M (D 4 - 1)
theorem c_start (hl : ldC M l D) (hc : crC M c D) (hw : wf D) (hd : hdC M H kd) (hH : H ≤ 4) (hK : ∀ M', frS 21 38 M M' → chS D H kd M' → chI D H kd M' 0 → K none M') : ab_Call (d + 2) 6 [vr 21 0, vr 9 l, vr 14 c] M K := by
  refine c_begin hl hc hw hd hH (fun M' f a b g e h => ?_)
  refine hK M' f ⟨a, b, g⟩ ⟨fun j _ q => ?_, fun i hi j _ q => ?_, fun i hi j _ q => by omega, fun i hi q => (h i hi).2.1 q, fun i hi => ?_⟩
  · have : j = 0 := by omega
    subst this
    exact e
  · have : j = 0 := by omega
    subst this
    exact (h i hi).1
  · obtain ⟨-, -, x1, x2, x3⟩ := h i hi
    refine ⟨x1, x2, x3.trans ?_⟩
    rw [bs_none (p := trd D H kd i 0) (fun e _ => rfl)]
theorem c_pursueAll (hl : ldC M l D) (hc : crC M c D) (hw : wf D) (hd : hdC M H kd) (hH : H ≤ 4) (hkd : ∀ i, i < H → kd i ≤ 5) (hK : ∀ M', frS 21 38 M M' → chO D H kd M' → K none M') : ab_Call (d + 3) 4 [vr 21 0, vr 9 l, vr 14 c] M K := by
  refine caX0_pursueAll rfl (atX0_pursueAll ?_)
  have h4 : D 4 ≤ 7 := (bnd_of hw).2.1
  refine c_start hl hc hw hd hH (fun M1 f1 s1 i1 => ?_)
  have key : ∀ k, k ≤ D 4 - 1 → ∀ M', frS 21 38 M M' → chS D H kd M' → chI D H kd M' k → ab_At miX0_pursueAll (d + 3) 8 [some (vr 21 0), none, none, some (vi (nI k))] [] M' K := by
    refine up_ind fun k hk ih M' hf hS hI => ?_
    refine atX0_pursueAll ?_
    refine And.intro (fun h => ?_) (fun h => ?_)
    · rw [hS.2.1, nI_sub1 (by omega) (by omega)] at h
      have : k = D 4 - 1 := by omega
      subst this
      exact hK M' hf ⟨hS, hI⟩
    · rw [hS.2.1, nI_sub1_lt (by omega) (by omega)] at h
      refine c_goOn hw hS hI hH hkd h (fun M2 f2 i2 => ?_)
      have := ih (by omega) M2 (frS_trans hf (frS_mono f2 (by omega) (by omega))) (frS_chS f2 (by omega) hS) i2
      rw [← nI_1] at this
      exact this
  exact key 0 (Nat.zero_le _) M1 f1 s1 i1
/-- the place where the hares are caught -/
def cgt (D : Nat → Nat) (H : Nat) (kd : Nat → Nat) (k : Nat) : Prop := ∃ i, i < H ∧ cmv D H kd k i ≤ hrs D k
theorem c_pursueTillCaught (hl : ldC M l D) (hc : crC M c D) (hw : wf D) (hd : hdC M H kd) (hH : H ≤ 4) (hkd : ∀ i, i < H → kd i ≤ 5) (h1 : ∀ M' k, frS 21 38 M M' → hdC M' H kd → 1 ≤ k → k < D 4 → cgt D H kd k → (∀ j, 1 ≤ j → j < k → ¬ cgt D H kd j) → K (some (vi (nI k))) M') (h0 : ∀ M', frS 21 38 M M' → hdC M' H kd → (∀ j, 1 ≤ j → j < D 4 → ¬ cgt D H kd j) → K (some (vi (-9))) M') : ab_Call (d + 3) 5 [vr 21 0, vr 9 l, vr 14 c] M K := by
  refine ab_Call_nr (caX0_pursueTillCaught rfl (atX0_pursueTillCaught ?_))
  have h4 : D 4 ≤ 7 := (bnd_of hw).2.1
  refine c_start hl hc hw hd hH (fun M1 f1 s1 i1 => ?_)
  have key : ∀ k, k ≤ D 4 - 1 → ∀ M', frS 21 38 M M' → chS D H kd M' → chI D H kd M' k → (∀ j, 1 ≤ j → j ≤ k → ¬ cgt D H kd j) → ab_At miX0_pursueTillCaught (d + 3) 8 [some (vr 21 0), none, none, some (vi (nI k))] [] M' (fun r M => K (r.map ab_nr) M) := by
    refine up_ind fun k hk ih M' hf hS hI hno => ?_
    refine atX0_pursueTillCaught ?_
    refine And.intro (fun h => ?_) (fun h => ?_)
    · rw [hS.2.1, nI_sub1 (by omega) (by omega)] at h
      exact h0 M' hf hS.1 (fun j j1 j2 => hno j j1 (by omega))
    · rw [hS.2.1, nI_sub1_lt (by omega) (by omega)] at h
      refine c_goOn hw hS hI hH hkd h (fun M2 f2 i2 => ?_)
      have hf2 := frS_trans hf (frS_mono f2 (by omega) (by omega))
      have hS2 := frS_chS f2 (by omega) hS
      refine c_isCaughtAt (nI_1 k) hS2 hw hH h (i2.1 (k + 1) h (Nat.le_refl _)) (fun i hi => i2.2.1 i hi (k + 1) h (Nat.le_refl _)) (fun q => ?_) (fun q => ?_)
      · have := h1 M2 (k + 1) hf2 hS2.1 (by omega) h q (fun j j1 j2 => hno j j1 (by omega))
        rw [← nI_1] at this
        exact this
      · have := ih (by omega) M2 hf2 hS2 i2 (fun j j1 j2 => by
          by_cases e : j = k + 1
          · subst e
            rintro ⟨i, hi, w⟩
            have := q i hi
            omega
          · exact hno j j1 (by omega))
        rw [← nI_1] at this
        exact this
  exact key 0 (Nat.zero_le _) M1 f1 s1 i1 (fun j a b => by omega)
end GoOn
