/-! ===== a country's text: the class's items ===== -/
theorem pM_self {M : ab_M} {p : Nat} (h : M.1 13 0 4 = nI p) : pM M p = M := by
  unfold pM ab_sI
  refine Prod.ext ?_ rfl
  funext a b c
  show (if a = 13 ∧ b = 0 ∧ c = 4 then nI p else M.1 a b c) = M.1 a b c
  split
  · rename_i w; obtain ⟨rfl, rfl, rfl⟩ := w; exact h.symm
  · rfl
theorem up_self {M : ab_M} {p : Nat} (h : M.1 13 0 4 = nI p) : ab_sI M 13 0 4 (M.1 13 0 4 + nI 1) = pM M (p + 1) := by
  unfold pM
  rw [h, nI_add]
theorem pm_O {D : Nat → Nat} {f h : Nat} (x y : Nat) : pm (adO D f h) x y = pm D x y := by
  unfold pm
  exact pmr_pre (fun k _ => ⟨by unfold adO; rw [if_neg (by omega), if_neg (by omega)], by unfold adO; rw [if_neg (by omega), if_neg (by omega)], by unfold adO; rw [if_neg (by omega), if_neg (by omega)]⟩)
section Items
variable {d t n : Nat} {M : ab_M} {K : ab_K} {D : Nat → Nat}
theorem c_signE {p : Nat} (h4 : M.1 13 0 4 = nI p) (hB : rdB t n M) (ht : t < 4) (hn : n ≤ 80) (hp : p < 1000) (h1 : p < n → K (some (vi (M.1 7 t p))) M) (h0 : n ≤ p → K (some (vi (nI 0))) M) : ab_Call d 76 [vr 13 0] M K := by
  have := c_sign (d := d) (p := p) (K := K) hB ht hn hp (fun q => by rw [pM_self h4]; exact h1 q) (fun q => by rw [pM_self h4]; exact h0 q)
  rw [pM_self h4] at this
  exact this
theorem c_figE {p lo hi : Nat} {u v : Int32} (h4 : M.1 13 0 4 = nI p) (hu : u = nI lo) (hv : v = nI hi) (hB : rdB t n M) (ht : t < 4) (hn : n ≤ 80) (hp : p < 1000) (hlo : lo < 1000) (hhi : hi < 1000) (h1 : ∀ f, fig (M.1 7 t) n p lo hi = some f → K (some (vi (nI f))) (pM M (p + 1))) (h0 : fig (M.1 7 t) n p lo hi = none → K (some (vi (-9))) M) : ab_Call (d + 1) 77 [vr 13 0, vi u, vi v] M K := by
  have := c_readFigure (d := d) (p := p) (K := K) hu hv hB ht hn hp hlo hhi h1 (fun q => by rw [pM_self h4]; exact h0 q)
  rw [pM_self h4] at this
  exact this
theorem c_skipE {p : Nat} (h4 : M.1 13 0 4 = nI p) (hB : rdB t n M) (ht : t < 4) (hn : n ≤ 80) (hp : p < 1000) (hK : ∀ p', p ≤ p' → (p' ≤ n ∨ p' = p) → (∀ D b, P (M.1 7 t) n D p b = P (M.1 7 t) n D p' b) → (p' < n → ¬ M.1 7 t p' = nI 32) → K none (pM M p')) : ab_Call d 75 [vr 13 0] M K := by
  have := c_skip (d := d) (p := p) (K := K) hB ht hn hp hK
  rw [pM_self h4] at this
  exact this
theorem ldC_p {M : ab_M} {p : Nat} (h : ldC M 1 D) : ldC (pM M p) 1 D := h
theorem c_readOpening {p : Nat} (h4 : M.1 13 0 4 = nI p) (hB : rdB t n M) (ht : t < 4) (hn : n ≤ 80) (hp : p < 900) (hl : ldC M 1 D) (h1 : D 1 = 0) (hend : n ≤ p → K (some (.inl 0)) M) (h0 : ∀ q M', p < n → itO (M.1 7 t) n D p = .inl q → rfr M M' → M'.1 13 0 4 = nI q → K (some (.inl 0)) M') (hs : ∀ q f g M', p < n → itO (M.1 7 t) n D p = .inr (q, adO D f g) → q ≤ n → 2 ≤ f → f ≤ 7 → g ≤ 9 → rfr M M' → ldC M' 1 (adO D f g) → M'.1 13 0 1 = nI g → M'.1 13 0 4 = nI q → p + 3 ≤ q → K (some (.inl 1)) M') : ab_Call (d + 2) 78 [vr 13 0] M K := by
  refine caX6_readOpening rfl (atX6_readOpening ?_)
  refine c_signE h4 hB ht hn (by omega) (fun hpn => ?_) (fun q => ?_)
  · refine And.intro (fun q => ?_) (fun q => ?_)
    · have q : M.1 7 t p = nI 99 := q
      have eu := up_self h4
      refine c_figE (M := ab_sI M 13 0 4 (M.1 13 0 4 + nI 1)) (p := p + 1) (lo := 2) (hi := 7) (by rw [eu]; exact sI_eq) rfl rfl (by rw [eu]; exact rfr_B (rfr_p rfr_refl) hB) ht hn (by omega) (by omega) (by omega) (fun f hf => ?_) (fun hf => ?_)
      · rw [eu] at hf ⊢
        have hf' : fig (M.1 7 t) n (p + 1) 2 7 = some f := hf
        obtain ⟨f1, f2, f3, f4⟩ := fig_some hf'
        refine And.intro (fun _ => ?_) (fun q2 => absurd q2 (n9 (by omega)))
        have r2 : rfr M (ab_sI (pM (pM M (p + 1)) (p + 1 + 1)) 9 1 0 (nI f)) := rfr_sI (rfr_p (rfr_p rfr_refl)) (Or.inr (Or.inl ⟨Or.inl rfl, rfl⟩))
        have h42 : (ab_sI (pM (pM M (p + 1)) (p + 1 + 1)) 9 1 0 (nI f)).1 13 0 4 = nI (p + 2) := by rw [sI_g (by omega)]; exact sI_eq
        have hl0 : (ab_sI (pM (pM M (p + 1)) (p + 1 + 1)) 9 1 0 (nI f)).1 9 1 0 = nI f := sI_eq
        have hl1 : (ab_sI (pM (pM M (p + 1)) (p + 1 + 1)) 9 1 0 (nI f)).1 9 1 1 = nI (D 1) := hl.2.1
        have hl2 : (ab_sI (pM (pM M (p + 1)) (p + 1 + 1)) 9 1 0 (nI f)).1 9 1 2 = nI (D 2) := hl.2.2.1
        refine c_figE (M := (ab_sI (pM (pM M (p + 1)) (p + 1 + 1)) 9 1 0 (nI f))) (p := p + 2) (lo := 0) (hi := 9) h42 rfl rfl (rfr_B r2 hB) ht hn (by omega) (by omega) (by omega) (fun g hg => ?_) (fun hg => ?_)
        · rw [rfr_7 r2] at hg
          obtain ⟨g1, g2, g3, g4⟩ := fig_some hg
          have e13 : (ab_sI (pM (ab_sI (pM (pM M (p + 1)) (p + 1 + 1)) 9 1 0 (nI f)) (p + 2 + 1)) 13 0 1 (nI g)).1 13 0 1 = nI g := sI_eq
          refine And.intro (fun q2 => absurd q2 (n9 (k := g) (by omega))) (fun _ => ?_)
          refine hs (p + 3) f g _ hpn ?_ (by omega) f3 f4 g4 (rfr_sI (rfr_p r2) (Or.inl ⟨rfl, rfl, Or.inl rfl⟩)) ?_ e13 ?_ (Nat.le_refl _)
          · unfold itO
            rw [if_pos q, hf', hg]
          · exact ⟨hl0, hl1, hl2, fun i hi => by have hi : i < D 1 := hi; omega, fun x hx y hy => by rw [pm_O]; exact hl.2.2.2.2 x hx y hy⟩
          · rw [sI_k (by omega)]; exact sI_eq
        · rw [rfr_7 r2] at hg
          refine And.intro (fun _ => ?_) (fun q2 => absurd rfl q2)
          refine h0 (p + 2) _ hpn ?_ (rfr_sI r2 (Or.inl ⟨rfl, rfl, Or.inl rfl⟩)) (by rw [sI_k (by omega)]; exact h42)
          unfold itO
          rw [if_pos q, hf', hg]
      · rw [eu] at hf ⊢
        have hf' : fig (M.1 7 t) n (p + 1) 2 7 = none := hf
        refine And.intro (fun q2 => absurd rfl q2) (fun _ => ?_)
        refine h0 (p + 1) _ hpn ?_ (rfr_p rfr_refl) sI_eq
        unfold itO
        rw [if_pos q, hf']
    · refine h0 p M hpn ?_ rfr_refl h4
      unfold itO
      rw [if_neg q]
  · refine And.intro (fun w => absurd (show nI 0 = nI 99 from w) (by decide)) (fun _ => hend q)
theorem c_readHound {p : Nat} (h4 : M.1 13 0 4 = nI p) (hB : rdB t n M) (ht : t < 4) (hn : n ≤ 80) (hpn : p < n) (hl : ldC M 1 D) (hp : pwf D) (h0 : ∀ q, itH (M.1 7 t) D p = .inl q → M.1 13 0 4 = nI q → K (some (.inl 0)) M) (hs : ∀ kd M', itH (M.1 7 t) D p = .inr (p + 1, adH D kd) → kd ≤ 5 → D 2 = 0 → D 1 < 4 → rfr M M' → ldC M' 1 (adH D kd) → M'.1 13 0 1 = M.1 13 0 1 → M'.1 13 0 4 = nI (p + 1) → K (some (.inl 1)) M') : ab_Call (d + 2) 80 [vr 13 0] M K := by
  refine caX6_readHound rfl (atX6_readHound ?_)
  have a1 := hp.1.2.1
  have a2 := hp.1.2.2.1
  have e91 : M.1 9 1 1 = nI (D 1) := hl.2.1
  have e92 : M.1 9 1 2 = nI (D 2) := hl.2.2.1
  refine c_signE h4 hB ht hn (by omega) (fun _ => ?_) (fun q => by omega)
  refine c_ofLetter (fun kd hkd => ?_) (fun hkd => ?_)
  · have k5 := kdl_le hkd
    refine And.intro (fun q => absurd q (n9 (by omega))) (fun _ => ?_)
    have bad : (0 < D 2 ∨ 4 ≤ D 1) → K (some (.inl 0)) M := fun w => h0 p (by unfold itH; rw [hkd]; show (if 0 < D 2 ∨ 4 ≤ D 1 then _ else _) = _; rw [if_pos w]) h4
    refine And.intro (fun q => ?_) (fun q => ?_)
    · rw [e92] at q
      exact bad (Or.inl (nlt_use (a := 0) q))
    · rw [e92] at q
      have q2 := nle_use (b := 0) q
      refine And.intro (fun q => ?_) (fun q => ?_)
      · rw [e91] at q
        have q1 := nlt_use (b := 4) q
        refine caX3_addHound rfl (atX3_addHound ?_)
        refine ix_i (D 1) e91 (show _ < 4 by omega) ?_
        have hit : itH (M.1 7 t) D p = .inr (p + 1, adH D kd) := by
          unfold itH
          rw [hkd]
          show (if 0 < D 2 ∨ 4 ≤ D 1 then _ else _) = _
          rw [if_neg (by omega)]
        refine hs kd _ hit k5 (by omega) q1 (rfr_sI (rfr_sI (rfr_sI rfr_refl (Or.inr (Or.inl ⟨Or.inr rfl, rfl⟩))) (Or.inr (Or.inl ⟨Or.inl rfl, rfl⟩))) (Or.inl ⟨rfl, rfl, Or.inr rfl⟩)) ⟨?_, ?_, ?_, fun i hi => ?_, fun x hx y hy => ?_⟩ ?_ ?_
        · rw [sI_g (by omega), sI_k (by omega), sI_g (by omega)]
          unfold adH
          rw [if_neg (by omega), if_neg (by omega)]
          exact hl.1
        · rw [sI_g (by omega), sI_eq, sI_g (by omega), e91, nI_add]
          rfl
        · rw [sI_g (by omega), sI_k (by omega), sI_g (by omega)]
          unfold adH
          rw [if_neg (by omega), if_neg (by omega)]
          exact hl.2.2.1
        · have hi : i < D 1 + 1 := hi
          rw [sI_g (by omega), sI_g (by omega)]
          unfold adH
          rw [if_neg (by omega)]
          by_cases e : i = D 1
          · subst e
            rw [sI_eq, if_pos rfl]
          · rw [sI_k e, if_neg (by omega)]
            exact hl.2.2.2.1 i (by omega)
        · rw [sI_g (by omega), sI_g (by omega), sI_g (by omega), pm_H (by omega) q1]
          exact hl.2.2.2.2 x hx y hy
        · rw [sI_k (by omega), sI_g (by omega), sI_g (by omega)]
        · rw [sI_eq]
          show M.1 13 0 4 + nI 1 = _
          rw [h4, nI_add]
      · rw [e91] at q
        exact bad (Or.inr (nle_use (a := 4) q))
  · refine And.intro (fun _ => ?_) (fun q => absurd rfl q)
    exact h0 p (by unfold itH; rw [hkd]) h4
end Items
