/-! ===== parted ===== -/
/-- who is free first -/
def am (F : Nat → Nat) : Nat → Nat
  | 0 => 0
  | i + 1 => if F i < F (am F i) then i else am F i
theorem am_lt {F : Nat → Nat} : ∀ {n : Nat}, 0 < n → am F n < n
  | 1, _ => by simp [am]
  | n + 2, _ => by
    rw [am]
    have := am_lt (F := F) (n := n + 1) (by omega)
    split <;> omega
/-- minutes of a false end between two places -/
def wad (D : Nat → Nat) (h t n : Nat) : Nat := sm (fun e => if D (53 + e) = h ∧ D (61 + e) = t then 2 * D (69 + e) else 0) n
theorem wad_le {D : Nat → Nat} (hb : bnd D) (h t : Nat) : ∀ {n : Nat}, n ≤ D 5 → wad D h t n ≤ 80 := by
  intro n hn
  have : wad D h t n ≤ n * 10 := sm_le (fun e he => by have := (hb.2.2.2.2.2 e (by omega)).2.2; split <;> omega)
  have := hb.2.2.1
  omega
theorem wad_0 {D : Nat → Nat} {h t : Nat} (hno : ∀ e, e < D 5 → ¬ (D (53 + e) = h ∧ D (61 + e) = t)) : wad D h t (D 5) = 0 := sm_zero (fun e he => if_neg (hno e he))
theorem wad_1 {D : Nat → Nat} {h t e : Nat} (hw : wf D) (he : e < D 5) (h1 : D (53 + e) = h) (h2 : D (61 + e) = t) : wad D h t (D 5) = 2 * D (69 + e) := by
  have := sm_one (f := fun e => if D (53 + e) = h ∧ D (61 + e) = t then 2 * D (69 + e) else 0) he (fun k hk hne => if_neg (fun q => by
    have hd := hw.2.2.2.2.2.2.2.2.2.1
    rcases Nat.lt_trichotomy k e with w | w | w
    · exact hd k e w he ⟨q.1.trans h1.symm, q.2.trans h2.symm⟩
    · exact hne w
    · exact hd e k w hk ⟨h1.trans q.1.symm, h2.trans q.2.symm⟩))
  unfold wad
  rw [this, if_pos ⟨h1, h2⟩]
def FF (D : Nat → Nat) (h n : Nat) : Nat → Nat → Nat
  | 0, _ => 0
  | t + 1, i => if i = am (FF D h n t) n then FF D h n t i + wad D h t (D 5) else FF D h n t i
theorem FF_le {D : Nat → Nat} (hb : bnd D) {h n i : Nat} : ∀ t, FF D h n t i ≤ t * 80
  | 0 => by simp [FF]
  | t + 1 => by
    rw [FF]
    have := FF_le hb (h := h) (n := n) (i := i) t
    have := wad_le hb h t (Nat.le_refl (D 5))
    split <;> omega
theorem nI_ne9 {k : Nat} (hk : k < 2 ^ 31) : ¬ nI k = -9 := n9 hk
section Parted
variable {d : Nat} {M : ab_M} {K : ab_K} {D : Nat → Nat}
theorem c_soonest {n : Nat} {F : Nat → Nat} (n1 : 1 ≤ n) (n9 : n ≤ 9) (hF : ∀ i, i < n → M.1 42 0 i = nI (F i)) (hl : ∀ i, F i < 1000) (hK : K (some (vi (nI (am F n)))) M) : ab_Call d 72 [vr 39 0, vi (nI n)] M K := by
  refine caX5_soonestFree rfl (atX5_soonestFree ?_)
  have key : ∀ j, j ≤ n → 1 ≤ j → ab_At miX5_soonestFree d 4 [some (vr 39 0), some (vi (nI n)), some (vi (nI (am F j))), some (vi (nI j))] [] M K := by
    refine up_ind fun j hj ih j1 => ?_
    refine atX5_soonestFree ?_
    refine And.intro (fun h => ?_) (fun h => ?_)
    · have : j = n := by have := nle_use h; omega
      subst this
      exact hK
    · have hjn := nlt_use h
      have ha := am_lt (F := F) (n := j) (by omega)
      have l1 := hl j
      have l2 := hl (am F j)
      have := ih hjn (by omega)
      rw [← nI_1 j, am] at this
      refine ix_i j rfl (show j < 9 by omega) ?_
      refine ix_i (am F j) rfl (show _ < 9 by omega) ?_
      refine And.intro (fun q => ?_) (fun q => ?_)
      · rw [hF j hjn, hF (am F j) (by omega)] at q
        have q := nle_use q
        rw [if_neg (by omega)] at this
        exact this
      · rw [hF j hjn, hF (am F j) (by omega)] at q
        rw [if_pos (nlt_use q)] at this
        exact this
  have := key 1 n1 (Nat.le_refl _)
  rw [show am F 1 = 0 by simp [am]] at this
  exact this
theorem c_minutesParted {k n : Nat} (hc : crC M 0 D) (hw : wf D) (hk : k < D 4) (n1 : 1 ≤ n) (n9 : n ≤ 9) (hK : ∀ M', frS 39 42 M M' → K (some (vi (nI (if k + 1 < D 4 then FF D (D (46 + k)) n (D (46 + k + 1)) (am (FF D (D (46 + k)) n (D (46 + k + 1))) n) + (if wy D k then 2 else 0) else 0)))) M') : ab_Call (d + 1) 71 [vr 39 0, vi (nI k), vi (nI n)] M K := by
  refine ab_Call_nr (caX5_minutesParted rfl (atX5_minutesParted ?_))
  have hb := bnd_of hw
  have hb' := hb
  obtain ⟨b3, b4, b5, b6, b7, b8⟩ := hb'
  refine c_last hc (by omega) ?_
  refine And.intro (fun q => ?_) (fun q => ?_)
  · have hk1 : k + 1 < D 4 := by have := nlt_use q; omega
    rw [if_pos hk1] at hK
    have bk := b7 k hk
    have bk1 : D (46 + k + 1) < 7 := b7 (k + 1) hk1
    have fl : ∀ t i, t ≤ 7 → FF D (D (46 + k)) n t i < 1000 := fun t i ht => by have := FF_le hb (h := D (46 + k)) (n := n) (i := i) t; omega
    have second : ∀ t, t ≤ D (46 + k + 1) → ∀ M', frS 39 42 M M' → (∀ i, i < n → M'.1 42 0 i = nI (FF D (D (46 + k)) n t i)) → ab_At miX5_minutesParted (d + 1) 59 [some (vr 39 0), some (vi (nI k)), some (vi (nI n)), some (vi (nI (D (46 + k)))), some (vi (nI (D (46 + k + 1)))), some (vi (nI t))] [] M' (fun r M => K (r.map ab_nr) M) := by
      refine up_ind fun t ht ih M' hf hm => ?_
      refine atX5_minutesParted ?_
      have hc' := frS_cr hf (by omega) hc
      have ha := am_lt (F := FF D (D (46 + k)) n t) (n := n) (by omega)
      refine And.intro (fun h => ?_) (fun h => ?_)
      · have : t = D (46 + k + 1) := by have := nle_use h; omega
        subst this
        refine c_soonest n1 n9 hm (fun i => fl _ i (by omega)) ?_
        refine ix_i (am (FF D (D (46 + k)) n (D (46 + k + 1))) n) rfl (show _ < 9 by omega) ?_
        have := hK M' hf
        rw [← nI_add, ← hm _ ha] at this
        refine c_isWindy hc' hb (by omega) (fun _ w => ?_) (fun w => ?_)
        · rw [wy_1 w] at this
          exact this
        · rw [show wy D k = false by unfold wy; simp; exact fun z => w ⟨hk1, z⟩] at this
          exact this
      · have htn := nlt_use h
        refine c_endBetween hc' hb (by omega) (by omega) (fun e he e1 e2 _ => ?_) (fun hno => ?_)
        · refine And.intro (fun w => absurd w (nI_ne9 (by omega))) (fun _ => ?_)
          refine c_soonest n1 n9 hm (fun i => fl t i (by omega)) ?_
          refine ix_i (am (FF D (D (46 + k)) n t) n) rfl (show _ < 9 by omega) ?_
          refine ix_i e rfl (show e < 8 by omega) ?_
          refine ix_i (am (FF D (D (46 + k)) n t) n) rfl (show _ < 9 by omega) ?_
          have e18 := (hc'.2.2.2.2.2 e he).2.2
          have := ih htn (ab_sI M' 42 0 (am (FF D (D (46 + k)) n t) n) (M'.1 42 0 (am (FF D (D (46 + k)) n t) n) + nI 2 * M'.1 18 0 e)) (frS_sI hf (by omega) (by omega)) (fun i hi => by
            rw [FF]
            by_cases z : i = am (FF D (D (46 + k)) n t) n
            · rw [if_pos z, ← z, sI_eq, hm i hi, e18, pk_mul, nI_add, wad_1 hw he e1 e2]
            · rw [if_neg z, sI_k z]
              exact hm i hi)
          rw [← nI_1 t] at this
          exact this
        · have := ih htn M' hf (fun i hi => by
            rw [FF, wad_0 hno, Nat.add_zero]
            split
            · exact hm i hi
            · exact hm i hi)
          rw [← nI_1 t] at this
          exact this
    have first : ∀ j, j ≤ n → ∀ M', frS 39 42 M M' → (∀ i, i < j → M'.1 42 0 i = nI 0) → ab_At miX5_minutesParted (d + 1) 15 [some (vr 39 0), some (vi (nI k)), some (vi (nI n)), some (vi (nI j))] [] M' (fun r M => K (r.map ab_nr) M) := by
      refine up_ind fun j hj ih M' hf hm => ?_
      refine atX5_minutesParted ?_
      have hc' := frS_cr hf (by omega) hc
      refine And.intro (fun h => ?_) (fun h => ?_)
      · have : j = n := by have := nle_use h; omega
        subst this
        refine ix_i k rfl (show k < 7 by omega) ?_
        refine ix_i (k + 1) (by simp only [nI_add]) (show k + 1 < 7 by omega) ?_
        have := second 0 (Nat.zero_le _) M' hf hm
        rw [← show M'.1 15 0 k = nI (D (46 + k)) from hc'.2.2.2.2.1 k hk, ← show M'.1 15 0 (k + 1) = nI (D (46 + k + 1)) from hc'.2.2.2.2.1 (k + 1) hk1] at this
        exact this
      · have hjn := nlt_use h
        refine ix_i j rfl (show j < 9 by omega) ?_
        have := ih hjn (ab_sI M' 42 0 j (nI 0)) (frS_sI hf (by omega) (by omega)) (fun i hi => by
          by_cases e : i = j
          · subst e; exact sI_eq
          · rw [sI_k e]; exact hm i (by omega))
        rw [← nI_1 j] at this
        exact this
    exact first 0 (Nat.zero_le _) M frS_refl (fun i hi => absurd hi (by omega))
  · have hk1 : ¬ k + 1 < D 4 := by have := nle_use q; omega
    rw [if_neg hk1] at hK
    exact hK M frS_refl
end Parted
