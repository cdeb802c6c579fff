/-! ===== run: the reference's draws ===== -/
/-- an end fits -/
def fitE (D : Nat → Nat) (h t e : Nat) : Bool := decide (D (53 + e) = h ∧ D (61 + e) = t)
/-- the draws within the loop over the ends -/
def drx (D : Nat → Nat) (h t : Nat) (s : Int64 × Nat) (e : Nat) : Int64 × Nat := if exb (fitE D h t) e then (lt1 s.1, s.2 + (if odd1 (lt1 s.1) then wad D h t e else 0)) else s
theorem drx_0 {D : Nat → Nat} {h t : Nat} {s : Int64 × Nat} : drx D h t s 0 = s := rfl
theorem drx_end {D : Nat → Nat} {k t : Nat} {s : Int64 × Nat} : drx D (D (46 + k)) t (drw D k s t) (D 5) = drw D k s (t + 1) := by
  rw [drw]; rfl
theorem drx_no {D : Nat → Nat} {h t e : Nat} {s : Int64 × Nat} (q : ¬ (D (53 + e) = h ∧ D (61 + e) = t)) : drx D h t s (e + 1) = drx D h t s e := by
  unfold drx
  have e1 : exb (fitE D h t) (e + 1) = exb (fitE D h t) e := by rw [exb]; unfold fitE; rw [decide_eq_false q, Bool.or_false]
  have e2 : wad D h t (e + 1) = wad D h t e := by unfold wad; rw [sm, if_neg q, Nat.add_zero]
  rw [e1, e2]
theorem drx_yes {D : Nat → Nat} {h t e : Nat} {s : Int64 × Nat} (hw : wf D) (he : e < D 5) (h1 : D (53 + e) = h) (h2 : D (61 + e) = t) : drx D h t s e = s ∧ drx D h t s (e + 1) = (lt1 s.1, s.2 + (if odd1 (lt1 s.1) then 2 * D (69 + e) else 0)) := by
  have hd := hw.2.2.2.2.2.2.2.2.2.1
  have no : ∀ j, j < e → ¬ (D (53 + j) = h ∧ D (61 + j) = t) := fun j hj q => hd j e hj he ⟨q.1.trans h1.symm, q.2.trans h2.symm⟩
  have e1 : exb (fitE D h t) e = false := by
    cases q : exb (fitE D h t) e
    · rfl
    · obtain ⟨j, hj, h3⟩ := exb_iff.mp q
      exact absurd (of_decide_eq_true h3) (no j hj)
  have e2 : exb (fitE D h t) (e + 1) = true := by rw [exb]; unfold fitE; rw [decide_eq_true ⟨h1, h2⟩, Bool.or_true]
  have e3 : wad D h t (e + 1) = 2 * D (69 + e) := by
    unfold wad
    rw [sm, if_pos ⟨h1, h2⟩, sm_zero (fun j hj => if_neg (no j hj)), Nat.zero_add]
  constructor
  · unfold drx; rw [e1]; rfl
  · unfold drx; rw [e2, e3]; rfl
theorem lt1_c (x : Int64) : ab_remL (Int64.ofInt 48271 * x) (Int64.ofInt 2147483647) = lt1 x := by unfold lt1; rw [Int64.mul_comm]
/-- what the reference has when it comes to place k -/
def rv (D : Nat → Nat) (i k : Nat) : Nat := D 3 + sm (fun j => pce (kds D i) (sg D j)) (D 4 - 1) + sm (fun j => if wy D j then 2 else 0) k
theorem rv_end {D : Nat → Nat} {x : Int64} {i : Nat} : rv D i (D 4 - 1) + (drs D (loti D x i, 0) (D 4 - 1)).2 = mni D x i := by
  unfold mni rv mn0
  rfl
section Run4
variable {d : Nat} {M : ab_M} {K : ab_K} {D : Nat → Nat}
theorem m_run {v : Int32} (hn : nwM M 54 0 D) (hw : wf D) (h4 : 0 < D 4) (v1 : 1 ≤ v) (v2 : v ≤ Int32.ofInt 2147483646) (h1 : D 1 = 0 → K (some (vi (-9))) M) (hK : 0 < D 1 → K (some (vi (nI (wni D v.toInt64 (D 1)).1))) (ab_sI M 49 0 7 (nI (wni D v.toInt64 (D 1)).2))) : ab_Call (d + 5) 255 [vr 49 0, vi v] M K := by
  refine ab_Call_nr (caX10_run rfl (atX10_run ?_))
  have hb := bnd_of hw
  have hb' := hb
  obtain ⟨b3, b4, b5, b6, b7, b8⟩ := hb'
  have h0 : D 0 ≤ 7 := hw.1.1
  have w1 : D 1 ≤ 4 := hw.1.2.1
  refine c_in (a := 1) (b := Int32.ofInt 2147483646) rfl rfl (fun _ _ => ?_) (fun h => absurd ⟨v1, v2⟩ h)
  refine m_hasTrail1 hn h4 b4 ?_
  generalize hx : v.toInt64 = x at hK
  have key : ∀ i, i ≤ D 1 → ∀ b, (0 < i → b = nI (wni D x i).1) → (i = 0 → b = -9) → ab_At miX10_run (d + 5) 38 [some (vr 49 0), none, some (vl (loti D x i)), none, some (vi b), some (vi (nI (wni D x i).2)), some (vi (nI i))] [] M (fun r M => K (r.map ab_nr) M) := by
    refine up_ind fun i hi ih b hb1 hb0 => ?_
    refine atX10_run ?_
    refine And.intro (fun q => ?_) (fun q => ?_)
    · rw [nw hn (by omega)] at q
      have : i = D 1 := by have := nle_use q; omega
      subst this
      rcases Nat.eq_zero_or_pos (D 1) with z | z
      · have := hb0 z
        subst this
        refine And.intro (fun q => absurd rfl q) (fun _ => ?_)
        exact h1 z
      · have := hb1 z
        subst this
        have hle := wni_le hw x (D 1)
        refine And.intro (fun _ => ?_) (fun q => absurd q (n9 (by omega)))
        refine caX10_answer rfl (atX10_answer ?_)
        exact hK z
    · rw [nw hn (by omega)] at q
      have hin := nlt_use q
      have hkd : kds D i ≤ 5 := hw.1.2.2.2.1 i hin
      refine ix_i (6 + i) (by simp only [nI_add]) (show _ < 78 by omega) ?_
      refine m_straight (kd := kds D i) (nw hn (by omega)) hn hw hkd ?_
      have key2 : ∀ k, k ≤ D 4 - 1 → ab_At miX10_run (d + 5) 68 [some (vr 49 0), none, some (vl (drs D (loti D x i, 0) k).1), none, some (vi b), some (vi (nI (wni D x i).2)), some (vi (nI i)), some (vi (nI (rv D i k + (drs D (loti D x i, 0) k).2))), some (vi (nI k))] [] M (fun r M => K (r.map ab_nr) M) := by
        refine up_ind fun k hk ih2 => ?_
        refine atX10_run ?_
        refine And.intro (fun q => ?_) (fun q => ?_)
        · rw [nw hn (by omega), nI_sub1 (by omega) (by omega)] at q
          have : k = D 4 - 1 := by omega
          subst this
          rw [rv_end]
          have hm := mni_le hw x i
          have hle := wni_le hw x i
          have := ih hin
          rw [← nI_1 i, loti, wni] at this
          refine And.intro (fun q => ?_) (fun q => ?_)
          · have q := nle_use q
            refine And.intro (fun _ => ?_) (fun w => absurd (nlt_use w) (by omega))
            rw [if_neg (by omega)] at this
            refine this b (fun _ => ?_) (fun w => absurd w (by omega))
            rcases Nat.eq_zero_or_pos i with z | z
            · subst z
              rw [wni] at q
              simp only [] at q
              omega
            · exact hb1 z
          · have q := nlt_use q
            refine And.intro (fun w => absurd (nle_use w) (by omega)) (fun _ => ?_)
            rw [if_pos q] at this
            exact this (nI i) (fun _ => rfl) (fun w => absurd w (by omega))
        · rw [nw hn (by omega), nI_sub1_lt (by omega) (by omega)] at q
          have bk := b7 k (by omega)
          refine ix_i (46 + k) (by simp only [nI_add]) (show _ < 78 by omega) ?_
          generalize hs : drs D (loti D x i, 0) k = S
          have hS : S.2 ≤ 7 * 560 := by
            have := drs_le hb h0 (loti D x i, 0) k
            rw [hs] at this
            simp only [] at this
            omega
          have key3 : ∀ t, t ≤ D 0 → ab_At miX10_run (d + 5) 111 [some (vr 49 0), none, some (vl (drw D k S t).1), none, some (vi b), some (vi (nI (wni D x i).2)), some (vi (nI i)), some (vi (nI (rv D i (k + 1) + (drw D k S t).2))), some (vi (nI k)), some (vi (nI t))] [] M (fun r M => K (r.map ab_nr) M) := by
            refine up_ind fun t ht ih3 => ?_
            refine atX10_run ?_
            refine And.intro (fun q => ?_) (fun q => ?_)
            · rw [nw hn (by omega)] at q
              have : t = D 0 := by have := nle_use q; omega
              subst this
              have := ih2 (by omega)
              rw [← nI_1 k, drs, hs] at this
              exact this
            · rw [nw hn (by omega)] at q
              have htn := nlt_use q
              generalize hs2 : drw D k S t = s
              have key4 : ∀ e, e ≤ D 5 → ab_At miX10_run (d + 5) 125 [some (vr 49 0), none, some (vl (drx D (D (46 + k)) t s e).1), none, some (vi b), some (vi (nI (wni D x i).2)), some (vi (nI i)), some (vi (nI (rv D i (k + 1) + (drx D (D (46 + k)) t s e).2))), some (vi (nI k)), some (vi (nI t)), some (vi (nI e))] [] M (fun r M => K (r.map ab_nr) M) := by
                refine up_ind fun e he ih4 => ?_
                refine atX10_run ?_
                refine And.intro (fun q => ?_) (fun q => ?_)
                · rw [nw hn (by omega)] at q
                  have : e = D 5 := by have := nle_use q; omega
                  subst this
                  rw [← hs2, drx_end]
                  have := ih3 htn
                  rw [← nI_1 t] at this
                  exact this
                · rw [nw hn (by omega)] at q
                  have hen := nlt_use q
                  have be := b8 e hen
                  have := ih4 hen
                  rw [← nI_1 e] at this
                  refine ix_i (53 + e) (by simp only [nI_add]) (show _ < 78 by omega) ?_
                  refine ix_i (46 + k) (by simp only [nI_add]) (show _ < 78 by omega) ?_
                  refine And.intro (fun q => ?_) (fun q => ?_)
                  · rw [nw hn (by omega), nw hn (by omega), nI_eq (by omega) (by omega)] at q
                    rw [drx_no (fun w => q w.1)] at this
                    exact this
                  · rw [nw hn (by omega), nw hn (by omega), nI_eq (by omega) (by omega)] at q
                    refine ix_i (61 + e) (by simp only [nI_add]) (show _ < 78 by omega) ?_
                    refine And.intro (fun q2 => ?_) (fun q2 => ?_)
                    · rw [nw hn (by omega), nI_eq (by omega) (by omega)] at q2
                      rw [drx_no (fun w => q2 w.2)] at this
                      exact this
                    · rw [nw hn (by omega), nI_eq (by omega) (by omega)] at q2
                      obtain ⟨e5, e6⟩ := drx_yes (s := s) hw hen q q2
                      rw [e6] at this
                      rw [e5]
                      have e69 : M.1 54 0 (69 + e) = nI (D (69 + e)) := nw hn (by omega)
                      simp only [] at this
                      rw [← lt1_c] at this
                      refine And.intro (by decide) ?_
                      have no : odd1 (ab_remL (Int64.ofInt 48271 * s.1) (Int64.ofInt 2147483647)) = false → ab_At miX10_run (d + 5) 125 [some (vr 49 0), none, some (vl (ab_remL (Int64.ofInt 48271 * s.1) (Int64.ofInt 2147483647))), none, some (vi b), some (vi (nI (wni D x i).2)), some (vi (nI i)), some (vi (nI (rv D i (k + 1) + s.2) + nI 0)), some (vi (nI k)), some (vi (nI t)), some (vi (nI e + nI 1))] [] M (fun r M => K (r.map ab_nr) M) := by
                        intro w
                        rw [w, if_neg (by decide), Nat.add_zero] at this
                        rw [nI_add]
                        exact this
                      refine And.intro (by decide) ?_
                      refine And.intro (fun q => ?_) (And.intro (fun q => ?_) (fun q => ?_))
                      · exact no (decide_eq_false (fun w => by
                          have q : ab_remL (ab_remL (Int64.ofInt 48271 * s.1) (Int64.ofInt 2147483647)) (Int64.ofInt 2) < 1 := q
                          rw [w] at q
                          exact absurd q (by decide)))
                      · have w : odd1 (ab_remL (Int64.ofInt 48271 * s.1) (Int64.ofInt 2147483647)) = true := decide_eq_true q
                        refine ix_i (69 + e) (by simp only [nI_add]) (show _ < 78 by omega) ?_
                        rw [w, if_pos rfl, ← Nat.add_assoc, ← nI_add, ← pk_mul, ← e69] at this
                        exact this
                      · exact no (decide_eq_false (fun w => by
                          have q : 1 < ab_remL (ab_remL (Int64.ofInt 48271 * s.1) (Int64.ofInt 2147483647)) (Int64.ofInt 2) := q
                          rw [w] at q
                          exact absurd q (by decide)))
              exact key4 0 (Nat.zero_le _)
          have := key3 0 (Nat.zero_le _)
          rw [drw, rv, sm, ← Nat.add_assoc, Nat.add_assoc _ (if wy D k = true then 2 else 0), Nat.add_comm (if wy D k = true then 2 else 0), ← Nat.add_assoc, ← rv, ← nI_add] at this
          refine m_isWindy_e (nw hn (by omega)) hn b6 (b7 k (by omega)) (fun q => ?_) (fun q => ?_)
          · rw [wy_1 q] at this
            exact this
          · rw [wy_0 q] at this
            exact this
      exact key2 0 (Nat.zero_le _)
  have := key 0 (Nat.zero_le _) (-9) (fun h => absurd h (by omega)) (fun _ => rfl)
  rw [loti, ← hx] at this
  exact this
theorem op_run {x : Int32} (hR : Rel M) : OpI (d + 5) 140 255 [vi x] M := by
  obtain ⟨D, hw, hw2, hw3, hl, hc, hn, hk⟩ := Rel_D hR
  have hb := bnd_of hw
  have w1 : D 1 ≤ 4 := hw.1.2.1
  have e1 : M.1 9 0 1 = nI (D 1) := hl.2.1
  have bad : ¬ ((1 : Int32) ≤ x ∧ x ≤ Int32.ofInt 2147483646) → ab_Call (d + 5) 255 [vr 49 0, vi x] M (fun r2 M2 => (∃ v, some (vi (-1)) = some (vi v) ∧ r2 = some (vi v)) ∧ Rel M2) := by
    intro h
    refine ab_Call_nr (caX10_run rfl (atX10_run ?_))
    refine c_in (a := 1) (b := Int32.ofInt 2147483646) rfl rfl (fun a b => absurd ⟨a, b⟩ h) (fun _ => ?_)
    exact ⟨⟨_, rfl, rfl⟩, hR⟩
  have le6 : ∀ y : Int32, y < Int32.ofInt 2147483647 → y ≤ Int32.ofInt 2147483646 := by
    intro y h
    rw [Int32.lt_iff_toInt_lt] at h
    rw [Int32.le_iff_toInt_le]
    have a : (Int32.ofInt 2147483647).toInt = 2147483647 := by decide
    have b : (Int32.ofInt 2147483646).toInt = 2147483646 := by decide
    omega
  refine ab_Call_nr (caX9_run rfl (atX9_run ?_))
  refine And.intro (fun q => ?_) (fun q1 => ?_)
  · exact bad (fun w => by
      have q : x < (1 : Int32) := q
      have := Int32.lt_iff_toInt_lt.mp q
      have := Int32.le_iff_toInt_le.mp w.1
      omega)
  · refine And.intro (fun q2 => ?_) (fun q => ?_)
    · have v2 := le6 x q2
      rcases Nat.eq_zero_or_pos (D 4) with h4 | h4
      · refine c_isLaid0 hc h4 ?_
        refine ab_Call_nr (caX10_run rfl (atX10_run ?_))
        refine c_in (a := 1) (b := Int32.ofInt 2147483646) rfl rfl (fun _ _ => ?_) (fun h => absurd ⟨q1, v2⟩ h)
        refine m_hasTrail0 hn h4 ?_
        exact ⟨⟨_, rfl, rfl⟩, hR⟩
      · refine c_isLaid1 hc hb h4 ?_
        refine And.intro (fun q => ?_) (fun q => ?_)
        · have hp : 0 < D 1 := by
            rcases Nat.eq_zero_or_pos (D 1) with z | z
            · rw [z] at e1; exact absurd e1 q
            · exact z
          refine c_drawAll hl hc hw h4 hp (fun y => ?_)
          have f1 : frA M (ltM (wnM M (nI (wni D x.toInt64 (D 1)).1) (nI (wni D x.toInt64 (D 1)).2)) y) := by
            refine ⟨fun g i k q => ?_, fun g i k q _ => ?_, fun _ _ _ _ _ => rfl⟩
            · have : g ≠ 46 := fun w => q (Or.inl (by omega))
              show (ab_sI (ab_sI M 46 0 6 _) 46 0 7 _).1 g i k = _
              rw [sI_ne (fun w => this w.1), sI_ne (fun w => this w.1)]
            · show (if _ then _ else _) = _
              rw [if_neg (fun w => q w.1)]
              rfl
          have e6 : (ltM (wnM M (nI (wni D x.toInt64 (D 1)).1) (nI (wni D x.toInt64 (D 1)).2)) y).1 46 0 6 = nI (wni D x.toInt64 (D 1)).1 := rfl
          have e7 : (ltM (wnM M (nI (wni D x.toInt64 (D 1)).1) (nI (wni D x.toInt64 (D 1)).2)) y).1 46 0 7 = nI (wni D x.toInt64 (D 1)).2 := rfl
          generalize ltM (wnM M (nI (wni D x.toInt64 (D 1)).1) (nI (wni D x.toInt64 (D 1)).2)) y = M1 at f1 e6 e7 ⊢
          have hn1 : nwM (ab_sI M1 0 0 14 (M1.1 46 0 7)) 54 0 D := fun k hk => frA_nw f1 (by omega) (by omega) hn k hk
          refine m_run (M := ab_sI M1 0 0 14 (M1.1 46 0 7)) hn1 hw h4 q1 v2 (fun w => absurd w (by omega)) (fun _ => ?_)
          rw [← e6, ← e7]
          exact ⟨⟨_, rfl, rfl⟩, Rel_told _ hR f1 frA_refl⟩
        · have hz : D 1 = 0 := neq_use (a := D 1) (b := 0) (by rw [← e1]; exact q)
          refine m_run hn hw h4 q1 v2 (fun _ => ?_) (fun w => absurd w (by omega))
          exact ⟨⟨_, rfl, rfl⟩, hR⟩
    · exact bad (fun w => by
        have q : Int32.ofInt 2147483647 ≤ x := q
        have := Int32.le_iff_toInt_le.mp q
        have := Int32.le_iff_toInt_le.mp w.2
        have a : (Int32.ofInt 2147483647).toInt = 2147483647 := by decide
        have b : (Int32.ofInt 2147483646).toInt = 2147483646 := by decide
        omega)
end Run4
