/-! ===== a country's text: the reference's items ===== -/
theorem nw58_set {M : ab_M} {D : Nat → Nat} {k : Nat} {v : Nat} (hn : nwM M 58 0 D) : nwM (ab_sI M 58 0 k (nI v)) 58 0 (fun j => if j = k then v else D j) := by
  intro j hj
  rw [Nat.zero_add]
  show _ = nI (if j = k then v else D j)
  by_cases e : j = k
  · subst e
    rw [sI_eq, if_pos rfl]
  · rw [sI_k e, if_neg e]
    exact nw58 hn hj
theorem nwM_cong {M : ab_M} {g o : Nat} {D E : Nat → Nat} (hn : nwM M g o D) (h : ∀ j, j < 78 → E j = D j) : nwM M g o E := fun j hj => by rw [h j hj]; exact hn j hj
section Items2
variable {d t n : Nat} {M : ab_M} {K : ab_K} {D : Nat → Nat}
theorem m_takesFirst {p : Nat} (ht : t < 4) (e52 : M.1 52 0 t = nI n) (e13 : M.1 49 0 13 = nI p) (hn : n ≤ 80) (hpn : p < n) (hr : nwM M 58 0 D) (h0 : ∀ q M', itO (tc M t) n D p = .inl q → rfo M M' → M'.1 49 0 13 = nI q → K (some (.inl 0)) M') (hs : ∀ q f g M', itO (tc M t) n D p = .inr (q, adO D f g) → 2 ≤ f → f ≤ 7 → g ≤ 9 → rfo M M' → nwM M' 58 0 (adO D f g) → M'.1 49 0 13 = nI q → K (some (.inl 1)) M') : ab_Call (d + 2) 181 [vr 49 0, vi (nI t)] M K := by
  refine caX10_takesFirst rfl (atX10_takesFirst ?_)
  refine m_byteAt ht e52 e13 hn (by omega) (fun _ => ?_) (fun q => by omega)
  refine And.intro (fun q => ?_) (fun q => ?_)
  · have q : tc M t p = nI 99 := q
    have e1 : (ab_sI M 49 0 13 (M.1 49 0 13 + nI 1)).1 49 0 13 = nI (p + 1) := by rw [sI_eq, e13, nI_add]
    refine m_takes (M := ab_sI M 49 0 13 (M.1 49 0 13 + nI 1)) (p := p + 1) (pl := 0) (lo := 2) (hi := 7) rfl rfl rfl ht e52 e1 hn (by omega) (by omega) (by omega) (by omega) (fun f hf => ?_) (fun hf => ?_)
    · have hf' : fig (tc M t) n (p + 1) 2 7 = some f := hf
      obtain ⟨f1, f2, f3, f4⟩ := fig_some hf'
      refine m_takes (M := ab_sI (ab_sI (ab_sI M 49 0 13 (M.1 49 0 13 + nI 1)) 58 0 0 (nI f)) 49 0 13 (nI (p + 1 + 1))) (p := p + 2) (pl := 3) (lo := 0) (hi := 9) rfl rfl rfl ht e52 sI_eq hn (by omega) (by omega) (by omega) (by omega) (fun g hg => ?_) (fun hg => ?_)
      · have hg' : fig (tc M t) n (p + 2) 0 9 = some g := hg
        obtain ⟨g1, g2, g3, g4⟩ := fig_some hg'
        refine hs (p + 3) f g _ ?_ f3 f4 g4 (rfo_13 (rfo_58 (rfo_13 (rfo_58 (rfo_13 rfo_refl))))) ?_ sI_eq
        · unfold itO
          rw [if_pos q, hf']
          simp only []
          rw [hg']
        · have a := nw58_set (k := 0) (v := f) (M := ab_sI M 49 0 13 (M.1 49 0 13 + nI 1)) (D := D) hr
          have b := nw58_set (k := 3) (v := g) (M := ab_sI (ab_sI (ab_sI M 49 0 13 (M.1 49 0 13 + nI 1)) 58 0 0 (nI f)) 49 0 13 (nI (p + 1 + 1))) a
          refine nwM_cong (M := ab_sI (ab_sI (ab_sI (ab_sI M 49 0 13 (M.1 49 0 13 + nI 1)) 58 0 0 (nI f)) 49 0 13 (nI (p + 1 + 1))) 58 0 3 (nI g)) b (fun j _ => ?_)
          show (if j = 0 then f else if j = 3 then g else D j) = if j = 3 then g else if j = 0 then f else D j
          by_cases z : j = 0
          · subst z; rfl
          · rw [if_neg z, if_neg z]
      · have hg' : fig (tc M t) n (p + 2) 0 9 = none := hg
        refine h0 (p + 2) _ ?_ (rfo_13 (rfo_58 (rfo_13 rfo_refl))) sI_eq
        unfold itO
        rw [if_pos q, hf']
        simp only []
        rw [hg']
    · have hf' : fig (tc M t) n (p + 1) 2 7 = none := hf
      refine h0 (p + 1) _ ?_ (rfo_13 rfo_refl) e1
      unfold itO
      rw [if_pos q, hf']
  · refine h0 p M ?_ rfo_refl e13
    unfold itO
    rw [if_neg q]
theorem m_takesHound {p : Nat} (ht : t < 4) (e52 : M.1 52 0 t = nI n) (e13 : M.1 49 0 13 = nI p) (hn : n ≤ 80) (hpn : p < n) (hr : nwM M 58 0 D) (hp : pwf D) (h0 : ∀ q, itH (tc M t) D p = .inl q → M.1 49 0 13 = nI q → K (some (.inl 0)) M) (hs : ∀ kd M', itH (tc M t) D p = .inr (p + 1, adH D kd) → kd ≤ 5 → D 2 = 0 → D 1 < 4 → rfo M M' → nwM M' 58 0 (adH D kd) → M'.1 49 0 13 = nI (p + 1) → K (some (.inl 1)) M') : ab_Call (d + 1) 178 [vr 49 0, vi (nI t)] M K := by
  refine caX10_takesHound rfl (atX10_takesHound ?_)
  have a1 := hp.1.2.1
  have a2 := hp.1.2.2.1
  have r1 : M.1 58 0 1 = nI (D 1) := nw58 hr (by omega)
  have r2 : M.1 58 0 2 = nI (D 2) := nw58 hr (by omega)
  refine m_byteAt ht e52 e13 hn (by omega) (fun _ => ?_) (fun q => by omega)
  refine m_kindOf (fun kd hkd => ?_) (fun hkd => ?_)
  · have k5 := kdl_le hkd
    refine And.intro (fun q => absurd q (nI_pos (by omega))) (fun _ => ?_)
    have bad : (0 < D 2 ∨ 4 ≤ D 1) → K (some (.inl 0)) M := fun w => h0 p (by unfold itH; rw [hkd]; show (if 0 < D 2 ∨ 4 ≤ D 1 then _ else _) = _; rw [if_pos w]) e13
    refine And.intro (fun q => ?_) (fun q => ?_)
    · rw [r1] at q
      exact bad (Or.inr (by have := neq_use (b := 4) q; omega))
    · rw [r1] at q
      have q1 := nne_use (b := 4) q
      refine And.intro (fun q => ?_) (fun q => ?_)
      · rw [r2] at q
        have q2 := nle_use (b := 0) q
        refine ix_i (6 + D 1) (by show nI 6 + M.1 58 0 1 = _; rw [r1, nI_add]) (show _ < 78 by omega) ?_
        have hit : itH (tc M t) D p = .inr (p + 1, adH D kd) := by
          unfold itH
          rw [hkd]
          show (if 0 < D 2 ∨ 4 ≤ D 1 then _ else _) = _
          rw [if_neg (by omega)]
        have a := nw58_set (k := 6 + D 1) (v := kd) (M := ab_sI M 49 0 13 (M.1 49 0 13 + nI 1)) (D := D) hr
        have e5 : (ab_sI (ab_sI M 49 0 13 (M.1 49 0 13 + nI 1)) 58 0 (6 + D 1) (nI kd)).1 58 0 1 + nI 1 = nI (D 1 + 1) := by rw [sI_k (by omega), sI_g (by omega), r1, nI_add]
        have b := nw58_set (k := 1) (v := D 1 + 1) a
        rw [← e5] at b
        refine hs kd _ hit k5 (by omega) (by omega) (rfo_58 (rfo_58 (rfo_13 rfo_refl))) (nwM_cong b (fun j _ => ?_)) ?_
        · show (if j = 1 then D 1 + 1 else if j = 6 + D 1 then kd else D j) = if j = 1 then D 1 + 1 else if j = 6 + D 1 then kd else D j
          rfl
        · rw [sI_g (by omega), sI_g (by omega), sI_eq, e13, nI_add]
      · rw [r2] at q
        exact bad (Or.inl (nlt_use (a := 0) q))
  · refine And.intro (fun _ => ?_) (fun q => absurd q (by decide))
    exact h0 p (by unfold itH; rw [hkd]) e13
theorem m_pathOf58_e {X Y : Nat} {u v : Int32} (hu : u = nI X) (hv : v = nI Y) (hn : nwM M 58 0 D) (hL : wfL D) (hX : X < 7) (hY : Y < 7) (h1 : ∀ k, k < D 2 → pm D X Y = D (34 + k) → 0 < pm D X Y → K (some (vi (nI k))) M) (h0 : pm D X Y = 0 → K (some (vi (-1))) M) : ab_Call d 179 [vr 58 0, vi u, vi v] M K := by
  subst hu
  subst hv
  exact m_pathOf58 hn hL hX hY h1 h0
theorem m_pathOf58_e0 {X : Nat} {u v : Int32} (hu : u = nI X) (hn : nwM M 58 0 D) (hL : wfL D) (hX : X < 7) (hv : ∀ j, j < D 0 → v ≠ nI j) (h0 : K (some (vi (-1))) M) : ab_Call d 179 [vr 58 0, vi u, vi v] M K := by
  subst hu
  exact m_pathOf58_no hn hL hX hv h0
theorem m_takesPath {p : Nat} (ht : t < 4) (e52 : M.1 52 0 t = nI n) (e13 : M.1 49 0 13 = nI p) (hn : n ≤ 80) (hpn : p < n) (hr : nwM M 58 0 D) (hp : pwf D) (h2 : 2 ≤ D 0) (h0 : ∀ q M', itP (tc M t) n D p = .inl q → rfo M M' → M'.1 49 0 13 = nI q → K (some (.inl 0)) M') (hs : ∀ x y m M', itP (tc M t) n D p = .inr (p + 4, adP D x y m) → D 2 < 12 → x < D 0 → y < D 0 → y ≠ x → 1 ≤ m → m ≤ 9 → rfo M M' → nwM M' 58 0 (adP D x y m) → M'.1 49 0 13 = nI (p + 4) → K (some (.inl 1)) M') : ab_Call (d + 2) 180 [vr 49 0, vi (nI t)] M K := by
  refine caX10_takesPath rfl (atX10_takesPath ?_)
  have a0 := hp.1.1
  have a2 := hp.1.2.2.1
  have r0 : M.1 58 0 0 - nI 1 = nI (D 0 - 1) := by rw [nw58 hr (by omega), pk_sub (by omega)]
  have r2 : M.1 58 0 2 = nI (D 2) := nw58 hr (by omega)
  refine And.intro (fun q => ?_) (fun q => ?_)
  · rw [r2] at q
    have q12 := nne_use (b := 12) q
    have e1 : (ab_sI M 49 0 13 (M.1 49 0 13 + nI 1)).1 49 0 13 = nI (p + 1) := by rw [sI_eq, e13, nI_add]
    have i10 : nI 10 + M.1 58 0 2 = nI (10 + D 2) := by rw [r2, nI_add]
    have i22 : nI 22 + M.1 58 0 2 = nI (22 + D 2) := by rw [r2, nI_add]
    have i34 : nI 34 + M.1 58 0 2 = nI (34 + D 2) := by rw [r2, nI_add]
    refine m_takes (M := ab_sI M 49 0 13 (M.1 49 0 13 + nI 1)) (p := p + 1) (pl := 10 + D 2) (lo := 0) (hi := D 0 - 1) i10 rfl r0 ht e52 e1 hn (by omega) (by omega) (by omega) (by omega) (fun x hx => ?_) (fun hx => ?_)
    · have hx' : fig (tc M t) n (p + 1) 0 (D 0 - 1) = some x := hx
      obtain ⟨x1, x2, x3, x4⟩ := fig_some hx'
      have nX : nwM (ab_sI (ab_sI (ab_sI M 49 0 13 (M.1 49 0 13 + nI 1)) 58 0 (10 + D 2) (nI x)) 49 0 13 (nI (p + 1 + 1))) 58 0 (fun j => if j = 10 + D 2 then x else D j) := nw58_set (k := 10 + D 2) (v := x) (M := ab_sI M 49 0 13 (M.1 49 0 13 + nI 1)) (D := D) hr
      have lX : wfL (fun j => if j = 10 + D 2 then x else D j) := by
        obtain ⟨w0, w1, w2, w3, w4⟩ := hp.1
        refine ⟨?_, ?_, ?_, fun i hi => ?_, fun k hk => ?_⟩
        · show (if 0 = 10 + D 2 then x else D 0) ≤ 7
          rw [if_neg (by omega)]; exact w0
        · show (if 1 = 10 + D 2 then x else D 1) ≤ 4
          rw [if_neg (by omega)]; exact w1
        · show (if 2 = 10 + D 2 then x else D 2) ≤ 12
          rw [if_neg (by omega)]; exact w2
        · have hi : i < if 1 = 10 + D 2 then x else D 1 := hi
          rw [if_neg (by omega)] at hi
          show (if 6 + i = 10 + D 2 then x else D (6 + i)) ≤ 5
          rw [if_neg (by omega)]; exact w3 i hi
        · have hk : k < if 2 = 10 + D 2 then x else D 2 := hk
          rw [if_neg (by omega)] at hk
          show (if 10 + k = 10 + D 2 then x else D (10 + k)) < (if 0 = 10 + D 2 then x else D 0) ∧ (if 22 + k = 10 + D 2 then x else D (22 + k)) < (if 0 = 10 + D 2 then x else D 0) ∧ (if 10 + k = 10 + D 2 then x else D (10 + k)) ≠ (if 22 + k = 10 + D 2 then x else D (22 + k)) ∧ 1 ≤ (if 34 + k = 10 + D 2 then x else D (34 + k)) ∧ (if 34 + k = 10 + D 2 then x else D (34 + k)) ≤ 9
          rw [if_neg (by omega), if_neg (by omega), if_neg (by omega), if_neg (by omega)]
          exact w4 k hk
      have pX : ∀ u v, pm (fun j => if j = 10 + D 2 then x else D j) u v = pm D u v := fun u v => by
        have e2 : (fun j => if j = 10 + D 2 then x else D j) 2 = D 2 := if_neg (by omega)
        unfold pm
        rw [e2]
        refine pmr_pre (fun k hk => ⟨if_neg (by omega), if_neg (by omega), if_neg (by omega)⟩)
      have z0 : (fun j => if j = 10 + D 2 then x else D j) 0 = D 0 := if_neg (by omega)
      have e10 : (ab_sI (ab_sI (ab_sI M 49 0 13 (M.1 49 0 13 + nI 1)) 58 0 (10 + D 2) (nI x)) 49 0 13 (nI (p + 1 + 1))).1 58 0 (10 + D 2) = nI x := by rw [sI_g (by omega)]; exact sI_eq
      have e2 : (ab_sI (ab_sI (ab_sI M 49 0 13 (M.1 49 0 13 + nI 1)) 58 0 (10 + D 2) (nI x)) 49 0 13 (nI (p + 1 + 1))).1 49 0 13 = nI (p + 2) := sI_eq
      have bad : (fig (tc M t) n (p + 2) 0 (D 0 - 1) = none ∨ ∃ y, fig (tc M t) n (p + 2) 0 (D 0 - 1) = some y ∧ (y = x ∨ 0 < pm D x y)) → K (some (.inl 0)) (ab_sI (ab_sI (ab_sI M 49 0 13 (M.1 49 0 13 + nI 1)) 58 0 (10 + D 2) (nI x)) 49 0 13 (nI (p + 1 + 1))) := fun w => by
        refine h0 (p + 2) _ ?_ (rfo_13 (rfo_58 (rfo_13 rfo_refl))) e2
        unfold itP
        rw [if_neg (by omega), hx']
        simp only []
        rcases w with w | ⟨y, w, w2⟩
        · rw [w]
        · rw [w]
          simp only []
          rw [if_pos w2]
      refine m_byteAt (M := (ab_sI (ab_sI (ab_sI M 49 0 13 (M.1 49 0 13 + nI 1)) 58 0 (10 + D 2) (nI x)) 49 0 13 (nI (p + 1 + 1)))) (p := p + 2) ht e52 e2 hn (by omega) (fun y1 => ?_) (fun y1 => ?_)
      · cases hy : fig (tc M t) n (p + 2) 0 (D 0 - 1) with
        | none =>
          have hv : ∀ j, j < D 0 → tc (ab_sI (ab_sI (ab_sI M 49 0 13 (M.1 49 0 13 + nI 1)) 58 0 (10 + D 2) (nI x)) 49 0 13 (nI (p + 1 + 1))) t (p + 2) - nI 48 ≠ nI j := fun j hj => fig_none hy y1 (by omega) (by omega) (by omega)
          refine ix_i (10 + D 2) i10 (show _ < 78 by omega) ?_
          refine And.intro (fun _ => bad (Or.inl hy)) (fun q2 => ?_)
          refine ix_i (10 + D 2) i10 (show _ < 78 by omega) ?_
          refine m_pathOf58_e0 (X := x) e10 nX lX (by omega) (fun j hj => hv j (by rw [if_neg (by omega)] at hj; exact hj)) ?_
          refine And.intro (fun q3 => absurd q3 (by decide)) (fun _ => ?_)
          refine m_takes (M := (ab_sI (ab_sI (ab_sI M 49 0 13 (M.1 49 0 13 + nI 1)) 58 0 (10 + D 2) (nI x)) 49 0 13 (nI (p + 1 + 1)))) (p := p + 2) (pl := 22 + D 2) (lo := 0) (hi := D 0 - 1) i22 rfl r0 ht e52 e2 hn (by omega) (by omega) (by omega) (by omega) (fun y hy2 => absurd (hy.symm.trans hy2) (by simp)) (fun _ => bad (Or.inl hy))
        | some y =>
          obtain ⟨w1, w2, w3, w4⟩ := fig_some hy
          have ev : tc (ab_sI (ab_sI (ab_sI M 49 0 13 (M.1 49 0 13 + nI 1)) 58 0 (10 + D 2) (nI x)) 49 0 13 (nI (p + 1 + 1))) t (p + 2) - nI 48 = nI y := w2
          refine ix_i (10 + D 2) i10 (show _ < 78 by omega) ?_
          refine And.intro (fun q2 => ?_) (fun q2 => ?_)
          · have q2 : tc (ab_sI (ab_sI (ab_sI M 49 0 13 (M.1 49 0 13 + nI 1)) 58 0 (10 + D 2) (nI x)) 49 0 13 (nI (p + 1 + 1))) t (p + 2) - nI 48 = (ab_sI (ab_sI (ab_sI M 49 0 13 (M.1 49 0 13 + nI 1)) 58 0 (10 + D 2) (nI x)) 49 0 13 (nI (p + 1 + 1))).1 58 0 (10 + D 2) := q2
            rw [ev, e10] at q2
            exact bad (Or.inr ⟨y, hy, Or.inl (neq_use q2)⟩)
          · have q2 : ¬ tc (ab_sI (ab_sI (ab_sI M 49 0 13 (M.1 49 0 13 + nI 1)) 58 0 (10 + D 2) (nI x)) 49 0 13 (nI (p + 1 + 1))) t (p + 2) - nI 48 = (ab_sI (ab_sI (ab_sI M 49 0 13 (M.1 49 0 13 + nI 1)) 58 0 (10 + D 2) (nI x)) 49 0 13 (nI (p + 1 + 1))).1 58 0 (10 + D 2) := q2
            rw [ev, e10] at q2
            have hyx : y ≠ x := nne_use q2
            refine ix_i (10 + D 2) i10 (show _ < 78 by omega) ?_
            refine m_pathOf58_e (X := x) (Y := y) e10 ev nX lX (by omega) (by omega) (fun k hk _ hpm => ?_) (fun hpm => ?_)
            · rw [pX] at hpm
              have hk : k < D 2 := by
                rw [if_neg (by omega)] at hk
                exact hk
              refine And.intro (fun _ => bad (Or.inr ⟨y, hy, Or.inr hpm⟩)) (fun q3 => absurd q3 (nI_pos (by omega)))
            · rw [pX] at hpm
              refine And.intro (fun q3 => absurd q3 (by decide)) (fun _ => ?_)
              refine m_takes (M := (ab_sI (ab_sI (ab_sI M 49 0 13 (M.1 49 0 13 + nI 1)) 58 0 (10 + D 2) (nI x)) 49 0 13 (nI (p + 1 + 1)))) (p := p + 2) (pl := 22 + D 2) (lo := 0) (hi := D 0 - 1) i22 rfl r0 ht e52 e2 hn (by omega) (by omega) (by omega) (by omega) (fun y' hy2 => ?_) (fun hy2 => absurd (hy.symm.trans hy2) (by simp))
              have : y = y' := Option.some.inj (hy.symm.trans hy2)
              subst this
              have e3 : (ab_sI (ab_sI (ab_sI (ab_sI (ab_sI M 49 0 13 (M.1 49 0 13 + nI 1)) 58 0 (10 + D 2) (nI x)) 49 0 13 (nI (p + 1 + 1))) 58 0 (22 + D 2) (nI y)) 49 0 13 (nI (p + 2 + 1))).1 49 0 13 = nI (p + 3) := sI_eq
              refine m_takes (M := (ab_sI (ab_sI (ab_sI (ab_sI (ab_sI M 49 0 13 (M.1 49 0 13 + nI 1)) 58 0 (10 + D 2) (nI x)) 49 0 13 (nI (p + 1 + 1))) 58 0 (22 + D 2) (nI y)) 49 0 13 (nI (p + 2 + 1)))) (p := p + 3) (pl := 34 + D 2) (lo := 1) (hi := 9) i34 rfl rfl ht e52 e3 hn (by omega) (by omega) (by omega) (by omega) (fun m hm => ?_) (fun hm => ?_)
              · have hm' : fig (tc M t) n (p + 3) 1 9 = some m := hm
                obtain ⟨m1, m2, m3, m4⟩ := fig_some hm'
                have hit : itP (tc M t) n D p = .inr (p + 4, adP D x y m) := by
                  unfold itP
                  rw [if_neg (by omega), hx']
                  simp only []
                  rw [hy]
                  simp only []
                  rw [if_neg (by omega), hm']
                have nY := nw58_set (k := 22 + D 2) (v := y) nX
                have nM := nw58_set (M := (ab_sI (ab_sI (ab_sI (ab_sI (ab_sI M 49 0 13 (M.1 49 0 13 + nI 1)) 58 0 (10 + D 2) (nI x)) 49 0 13 (nI (p + 1 + 1))) 58 0 (22 + D 2) (nI y)) 49 0 13 (nI (p + 2 + 1)))) (k := 34 + D 2) (v := m) nY
                have e5 : (ab_sI (ab_sI (ab_sI (ab_sI (ab_sI (ab_sI (ab_sI M 49 0 13 (M.1 49 0 13 + nI 1)) 58 0 (10 + D 2) (nI x)) 49 0 13 (nI (p + 1 + 1))) 58 0 (22 + D 2) (nI y)) 49 0 13 (nI (p + 2 + 1))) 58 0 (34 + D 2) (nI m)) 49 0 13 (nI (p + 3 + 1))).1 58 0 2 + nI 1 = nI (D 2 + 1) := by
                  rw [sI_g (by omega), sI_k (by omega), sI_g (by omega), sI_k (by omega), sI_g (by omega), sI_k (by omega), sI_g (by omega), r2, nI_add]
                have nZ := nw58_set (M := ab_sI (ab_sI (ab_sI (ab_sI (ab_sI (ab_sI (ab_sI M 49 0 13 (M.1 49 0 13 + nI 1)) 58 0 (10 + D 2) (nI x)) 49 0 13 (nI (p + 1 + 1))) 58 0 (22 + D 2) (nI y)) 49 0 13 (nI (p + 2 + 1))) 58 0 (34 + D 2) (nI m)) 49 0 13 (nI (p + 3 + 1))) (k := 2) (v := D 2 + 1) nM
                rw [← e5] at nZ
                refine hs x y m _ hit (by omega) (by omega) (by omega) hyx m3 m4 (rfo_58 (rfo_13 (rfo_58 (rfo_13 (rfo_58 (rfo_13 (rfo_58 (rfo_13 rfo_refl)))))))) (nwM_cong nZ (fun j _ => ?_)) ?_
                · show (if j = 2 then D 2 + 1 else if j = 10 + D 2 then x else if j = 22 + D 2 then y else if j = 34 + D 2 then m else D j) = if j = 2 then D 2 + 1 else if j = 34 + D 2 then m else if j = 22 + D 2 then y else if j = 10 + D 2 then x else D j
                  by_cases z1 : j = 2
                  · rw [if_pos z1, if_pos z1]
                  · rw [if_neg z1, if_neg z1]
                    by_cases z2 : j = 10 + D 2
                    · rw [if_pos z2, if_neg (by omega), if_neg (by omega), if_pos z2]
                    · rw [if_neg z2]
                      by_cases z3 : j = 22 + D 2
                      · rw [if_pos z3, if_neg (by omega), if_pos z3]
                      · rw [if_neg z3, if_neg z3, if_neg z2]
                · rw [sI_g (by omega)]
                  exact sI_eq
              · have hm' : fig (tc M t) n (p + 3) 1 9 = none := hm
                refine h0 (p + 3) _ ?_ (rfo_13 (rfo_58 (rfo_13 (rfo_58 (rfo_13 rfo_refl))))) e3
                unfold itP
                rw [if_neg (by omega), hx']
                simp only []
                rw [hy]
                simp only []
                rw [if_neg (by omega), hm']
      · have hy : fig (tc M t) n (p + 2) 0 (D 0 - 1) = none := by unfold fig; rw [if_neg (by omega)]
        have hv : ∀ j, j < D 0 → Int32.ofInt (-1000) - nI 48 ≠ nI j := fun j hj e => by
          have := congrArg Int32.toInt e
          rw [nI_toInt (by omega), show (Int32.ofInt (-1000) - nI 48).toInt = -1048 by decide] at this
          omega
        refine ix_i (10 + D 2) i10 (show _ < 78 by omega) ?_
        refine And.intro (fun _ => bad (Or.inl hy)) (fun q2 => ?_)
        refine ix_i (10 + D 2) i10 (show _ < 78 by omega) ?_
        refine m_pathOf58_e0 (X := x) e10 nX lX (by omega) (fun j hj => hv j (by rw [if_neg (by omega)] at hj; exact hj)) ?_
        refine And.intro (fun q3 => absurd q3 (by decide)) (fun _ => ?_)
        refine m_takes (M := (ab_sI (ab_sI (ab_sI M 49 0 13 (M.1 49 0 13 + nI 1)) 58 0 (10 + D 2) (nI x)) 49 0 13 (nI (p + 1 + 1)))) (p := p + 2) (pl := 22 + D 2) (lo := 0) (hi := D 0 - 1) i22 rfl r0 ht e52 e2 hn (by omega) (by omega) (by omega) (by omega) (fun y hy2 => absurd (hy.symm.trans hy2) (by simp)) (fun _ => bad (Or.inl hy))
    · have hx' : fig (tc M t) n (p + 1) 0 (D 0 - 1) = none := hx
      refine h0 (p + 1) _ ?_ (rfo_13 rfo_refl) e1
      unfold itP
      rw [if_neg (by omega), hx']
  · rw [r2] at q
    have q12 := neq_use (b := 12) q
    refine h0 p M ?_ rfo_refl e13
    unfold itP
    rw [if_pos (by omega)]
end Items2
