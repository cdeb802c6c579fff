/-! ===== run: all hounds' draws ===== -/
/-- the lot before hound i -/
def loti (D : Nat → Nat) (x : Int64) : Nat → Int64
  | 0 => x
  | i + 1 => (drs D (loti D x i, 0) (D 4 - 1)).1
/-- when hound i is at the inn -/
def mni (D : Nat → Nat) (x : Int64) (i : Nat) : Nat := mn0 D (kds D i) + (drs D (loti D x i, 0) (D 4 - 1)).2
/-- the first of the soonest among the first n, and when -/
def wni (D : Nat → Nat) (x : Int64) : Nat → Nat × Nat
  | 0 => (0, 1000000)
  | n + 1 => if mni D x n < (wni D x n).2 then (n, mni D x n) else wni D x n
theorem drw_le {D : Nat → Nat} (hb : bnd D) (k : Nat) (s : Int64 × Nat) : ∀ t, (drw D k s t).2 ≤ s.2 + t * 80
  | 0 => Nat.le_refl _
  | t + 1 => by
    have ih := drw_le hb k s t
    have h5 := hb.2.2.1
    have := wad_le hb (D (46 + k)) t (Nat.le_refl (D 5))
    rw [drw]
    split
    · show (drw D k s t).2 + (if _ then _ else 0) ≤ _
      split <;> omega
    · omega
theorem drs_le {D : Nat → Nat} (hb : bnd D) (h0 : D 0 ≤ 7) (s : Int64 × Nat) : ∀ n, (drs D s n).2 ≤ s.2 + n * 560
  | 0 => Nat.le_refl _
  | n + 1 => by
    have ih := drs_le hb h0 s n
    have := drw_le hb n (drs D s n) (D 0)
    rw [drs]
    omega
theorem mni_le {D : Nat → Nat} (hw : wf D) (x : Int64) (i : Nat) : mni D x i ≤ 5000 := by
  have hb := bnd_of hw
  have := drs_le hb hw.1.1 (loti D x i, 0) (D 4 - 1)
  have h4 := hb.2.1
  have := mn0_le hw (kds D i)
  unfold mni
  simp only [] at *
  omega
theorem wni_le {D : Nat → Nat} (hw : wf D) (x : Int64) : ∀ n, (wni D x n).1 ≤ n ∧ (wni D x n).2 ≤ 1000000
  | 0 => ⟨Nat.le_refl _, Nat.le_refl _⟩
  | n + 1 => by
    have ih := wni_le hw x n
    have := mni_le hw x n
    rw [wni]
    split <;> constructor <;> (try show _ ≤ _) <;> omega
theorem wni_1 {D : Nat → Nat} (hw : wf D) (x : Int64) : wni D x 1 = (0, mni D x 0) := by
  have := mni_le hw x 0
  rw [wni, wni, if_pos (by show _ < 1000000; omega)]
section Run3
variable {d : Nat} {M : ab_M} {K : ab_K} {D : Nat → Nat}
def wnM (M : ab_M) (w s : Int32) : ab_M := ab_sI (ab_sI M 46 0 6 w) 46 0 7 s
theorem wnM_wnM (M : ab_M) (w s w' s' : Int32) : wnM (wnM M w s) w' s' = wnM M w' s' := by
  unfold wnM ab_sI
  refine Prod.ext ?_ rfl
  funext a b c
  show (if a = 46 ∧ b = 0 ∧ c = 7 then s' else if a = 46 ∧ b = 0 ∧ c = 6 then w' else if a = 46 ∧ b = 0 ∧ c = 7 then s else if a = 46 ∧ b = 0 ∧ c = 6 then w else M.1 a b c) = if a = 46 ∧ b = 0 ∧ c = 7 then s' else if a = 46 ∧ b = 0 ∧ c = 6 then w' else M.1 a b c
  split
  · rfl
  · split
    · rfl
    · rfl
theorem wnM_self (M : ab_M) : wnM M (M.1 46 0 6) (M.1 46 0 7) = M := by
  unfold wnM ab_sI
  refine Prod.ext ?_ rfl
  funext a b c
  show (if a = 46 ∧ b = 0 ∧ c = 7 then M.1 46 0 7 else if a = 46 ∧ b = 0 ∧ c = 6 then M.1 46 0 6 else M.1 a b c) = M.1 a b c
  split
  · rename_i h; obtain ⟨rfl, rfl, rfl⟩ := h; rfl
  · split
    · rename_i h; obtain ⟨rfl, rfl, rfl⟩ := h; rfl
    · rfl
theorem c_drawAll {v : Int32} (hl : ldC M 0 D) (hc : crC M 0 D) (hw : wf D) (h4 : 0 < D 4) (h1 : 0 < D 1) (hK : ∀ x, K none (ltM (wnM M (nI (wni D v.toInt64 (D 1)).1) (nI (wni D v.toInt64 (D 1)).2)) x)) : ab_Call (d + 4) 63 [vr 46 0, vi v] M K := by
  refine caX4_drawAll rfl (atX4_drawAll ?_)
  have w1 : D 1 ≤ 4 := hw.1.2.1
  generalize hx : v.toInt64 = x at hK
  have key : ∀ i, i ≤ D 1 → ∀ w s, (0 < i → w = nI (wni D x i).1 ∧ s = nI (wni D x i).2) → ab_At miX4_drawAll (d + 4) 8 [some (vr 46 0), none, some (vi (nI i))] [] (ltM (wnM M w s) (loti D x i)) K := by
    refine up_ind fun i hi ih w s hws => ?_
    refine atX4_drawAll ?_
    have e1 : M.1 9 0 1 = nI (D 1) := hl.2.1
    refine And.intro (fun q => ?_) (fun q => ?_)
    · have q : nI (D 1) ≤ nI i := by rw [← e1]; exact q
      have : i = D 1 := by have := nle_use q; omega
      subst this
      obtain ⟨rfl, rfl⟩ := hws h1
      exact hK _
    · have q : nI i < nI (D 1) := by rw [← e1]; exact q
      have hin := nlt_use q
      have hkd : kds D i ≤ 5 := hw.1.2.2.2.1 i hin
      have e10 : M.1 10 0 i = nI (kds D i) := hl.2.2.2.1 i hin
      refine ix_i i rfl (show i < 4 by omega) ?_
      refine c_leastMinute (M := ltM (wnM M w s) (loti D x i)) (D := D) e10 hl hc hw hkd h4 ?_
      refine c_drawOne (M := wnM M w s) (D := D) hl hc hw h4 ?_
      have := ih hin
      have yes : (i = 0 ∨ mni D x i < (wni D x i).2) → ab_At miX4_drawAll (d + 4) 8 [some (vr 46 0), none, some (vi (nI i + nI 1))] [] (ltM (wnM (wnM M w s) (nI i) (nI (mni D x i))) (loti D x (i + 1))) K := by
        intro h
        have e : wni D x (i + 1) = (i, mni D x i) := by
          rcases h with h | h
          · subst h; exact wni_1 hw x
          · rw [wni, if_pos h]
        have := this (nI i) (nI (mni D x i)) (fun _ => by rw [e]; exact ⟨rfl, rfl⟩)
        rw [← nI_1 i] at this
        rw [wnM_wnM]
        exact this
      have em : nI (mni D x i) = nI (mn0 D (kds D i)) + nI (drs D (loti D x i, 0) (D 4 - 1)).2 := by unfold mni; rw [nI_add]
      have hm := mni_le hw x i
      refine And.intro (fun q => ?_) (fun q => ?_)
      · have : i = 0 := neq_use (a := i) (b := 0) q
        have := yes (Or.inl this)
        rw [em] at this
        exact this
      · have hi0 : 0 < i := by
          rcases Nat.eq_zero_or_pos i with z | z
          · subst z; exact absurd rfl q
          · exact z
        obtain ⟨rfl, rfl⟩ := hws hi0
        have hwl := (wni_le hw x i).2
        refine And.intro (fun q => ?_) (fun q => ?_)
        · have q : nI (wni D x i).2 ≤ nI (mni D x i) := by rw [em]; exact q
          have q := nle_use q
          have e : wni D x (i + 1) = wni D x i := by rw [wni, if_neg (by omega)]
          have := this (nI (wni D x i).1) (nI (wni D x i).2) (fun _ => by rw [e]; exact ⟨rfl, rfl⟩)
          rw [← nI_1 i] at this
          exact this
        · have q : nI (mni D x i) < nI (wni D x i).2 := by rw [em]; exact q
          have q := nlt_use q
          have := yes (Or.inr q)
          rw [em] at this
          exact this
  have := key 0 (Nat.zero_le _) (M.1 46 0 6) (M.1 46 0 7) (fun h => absurd h (by omega))
  rw [wnM_self, loti, ← hx] at this
  exact this
end Run3
