/-! ===== a country's text: the class's paths, and the whole ===== -/
theorem pM_pM (M : ab_M) (p q : Nat) : pM (pM M p) q = pM M q := sI_ov M 13 0 4 (nI p) (nI q)
section Paths
variable {d t n : Nat} {M : ab_M} {K : ab_K} {D : Nat → Nat}
theorem c_readPath {p : Nat} (h4 : M.1 13 0 4 = nI p) (hB : rdB t n M) (ht : t < 4) (hn : n ≤ 80) (hpn : p < n) (hl : ldC M 1 D) (hp : pwf D) (h2 : 2 ≤ D 0) (h0 : ∀ q M', itP (M.1 7 t) n D p = .inl q → rfr M M' → M'.1 13 0 4 = nI q → K (some (.inl 0)) M') (hs : ∀ x y m M', itP (M.1 7 t) n D p = .inr (p + 4, adP D x y m) → D 2 < 12 → x < D 0 → y < D 0 → y ≠ x → 1 ≤ m → m ≤ 9 → p + 4 ≤ n → rfr M M' → ldC M' 1 (adP D x y m) → M'.1 13 0 1 = M.1 13 0 1 → M'.1 13 0 4 = nI (p + 4) → K (some (.inl 1)) M') : ab_Call (d + 2) 81 [vr 13 0] M K := by
  refine caX6_readPath rfl (atX6_readPath ?_)
  have a0 := hp.1.1
  have a2 := hp.1.2.2.1
  have e90 : M.1 9 1 0 = nI (D 0) := hl.1
  have e92 : M.1 9 1 2 = nI (D 2) := hl.2.2.1
  refine And.intro (fun q => ?_) (fun q => ?_)
  · rw [e92] at q
    have q12 := nlt_use (b := 12) q
    have eu := up_self h4
    have inn : ∀ k, (pM M k).1 9 1 0 - nI 1 = nI (D 0 - 1) := fun k => by
      show M.1 9 1 0 - nI 1 = _
      rw [e90, pk_sub (by omega)]
    have inn0 : (ab_sI M 13 0 4 (M.1 13 0 4 + nI 1)).1 9 1 0 - nI 1 = nI (D 0 - 1) := by rw [eu]; exact inn _
    refine caX3_inn rfl (atX3_inn ?_)
    refine c_figE (M := ab_sI M 13 0 4 (M.1 13 0 4 + nI 1)) (p := p + 1) (lo := 0) (hi := D 0 - 1) (by rw [eu]; exact sI_eq) rfl inn0 (by rw [eu]; exact rfr_B (rfr_p rfr_refl) hB) ht hn (by omega) (by omega) (by omega) (fun x hx => ?_) (fun hx => ?_)
    · rw [eu] at hx ⊢
      have hx' : fig (M.1 7 t) n (p + 1) 0 (D 0 - 1) = some x := hx
      obtain ⟨x1, x2, x3, x4⟩ := fig_some hx'
      rw [pM_pM]
      refine And.intro (fun _ => ?_) (fun q2 => absurd q2 (n9 (by omega)))
      refine caX3_inn rfl (atX3_inn ?_)
      refine c_figE (M := pM M (p + 1 + 1)) (p := p + 2) (lo := 0) (hi := D 0 - 1) sI_eq rfl (inn _) (rfr_B (rfr_p rfr_refl) hB) ht hn (by omega) (by omega) (by omega) (fun y hy => ?_) (fun hy => ?_)
      · have hy' : fig (M.1 7 t) n (p + 2) 0 (D 0 - 1) = some y := hy
        obtain ⟨y1, y2, y3, y4⟩ := fig_some hy'
        rw [pM_pM]
        refine And.intro (fun _ => ?_) (fun q2 => absurd q2 (n9 (by omega)))
        have bad : (y = x ∨ 0 < pm D x y) → K (some (.inl 0)) (ab_sI (pM M (p + 2 + 1)) 13 0 4 ((pM M (p + 2 + 1)).1 13 0 4 - nI 1)) := fun w => by
          refine h0 (p + 2) _ ?_ (rfr_sI (rfr_p rfr_refl) (Or.inl ⟨rfl, rfl, Or.inr rfl⟩)) ?_
          · unfold itP
            rw [if_neg (by omega), hx']
            simp only []
            rw [hy']
            simp only []
            rw [if_pos w]
          · rw [sI_eq]
            show nI (p + 2 + 1) - nI 1 = _
            rw [pk_sub (by omega), Nat.add_sub_cancel]
        refine And.intro (fun q2 => bad (Or.inl (neq_use q2))) (fun q2 => ?_)
        have hxy : y ≠ x := nne_use q2
        rcases Nat.eq_zero_or_pos (pm D x y) with z | z
        · refine c_hasPath0 (M := pM M (p + 2 + 1)) (D := D) (l := 1) hl (by omega) (by omega) z ?_
          refine c_figE (M := pM M (p + 2 + 1)) (p := p + 3) (lo := 1) (hi := 9) sI_eq rfl rfl (rfr_B (rfr_p rfr_refl) hB) ht hn (by omega) (by omega) (by omega) (fun m hm => ?_) (fun hm => ?_)
          · have hm' : fig (M.1 7 t) n (p + 3) 1 9 = some m := hm
            obtain ⟨m1, m2, m3, m4⟩ := fig_some hm'
            rw [pM_pM]
            refine And.intro (fun _ => ?_) (fun q2 => absurd q2 (n9 (by omega)))
            refine caX3_addPath rfl (atX3_addPath ?_)
            refine ix_i x rfl (show x < 7 by omega) ?_
            refine ix_i y rfl (show y < 7 by omega) ?_
            refine ix_i y rfl (show y < 7 by omega) ?_
            refine ix_i x rfl (show x < 7 by omega) ?_
            have hit : itP (M.1 7 t) n D p = .inr (p + 4, adP D x y m) := by
              unfold itP
              rw [if_neg (by omega), hx']
              simp only []
              rw [hy']
              simp only []
              rw [if_neg (by omega), hm']
            refine hs x y m (ab_sI (ab_sI (ab_sI (pM M (p + 3 + 1)) 12 (7 * 1 + x) y (nI m)) 12 (7 * 1 + y) x (nI m)) 9 1 2 ((ab_sI (ab_sI (pM M (p + 3 + 1)) 12 (7 * 1 + x) y (nI m)) 12 (7 * 1 + y) x (nI m)).1 9 1 2 + nI 1)) hit q12 (by omega) (by omega) hxy m3 m4 (by omega) (rfr_sI (rfr_sI (rfr_sI (rfr_p rfr_refl) (Or.inr (Or.inr ⟨rfl, by omega⟩))) (Or.inr (Or.inr ⟨rfl, by omega⟩))) (Or.inr (Or.inl ⟨Or.inl rfl, rfl⟩))) ⟨?_, ?_, ?_, fun i hi => ?_, fun u hu v hv => ?_⟩ rfl ?_
            · rw [sI_k (by omega), sI_g (by omega), sI_g (by omega), adP_lo (by omega) (by omega) (by omega) (by omega)]
              exact hl.1
            · rw [sI_k (by omega), sI_g (by omega), sI_g (by omega), adP_lo (by omega) (by omega) (by omega) (by omega)]
              exact hl.2.1
            · rw [sI_eq, sI_g (by omega), sI_g (by omega)]
              show M.1 9 1 2 + nI 1 = nI (D 2 + 1)
              rw [e92, nI_add]
            · rw [adP_lo (by omega) (by omega) (by omega) (by omega)] at hi
              have a1 := hp.1.2.1
              rw [sI_g (by omega), sI_g (by omega), sI_g (by omega), adP_lo (by omega) (by omega) (by omega) (by omega)]
              exact hl.2.2.2.1 i hi
            · rw [sI_g (by omega), pm_P q12]
              by_cases e1 : 7 * 1 + u = 7 * 1 + y ∧ v = x
              · obtain ⟨e1, rfl⟩ := e1
                have : u = y := by omega
                subst this
                rw [sI_eq, if_pos (Or.inr ⟨rfl, rfl⟩)]
              · rw [sI_ne (by omega)]
                by_cases e2 : 7 * 1 + u = 7 * 1 + x ∧ v = y
                · obtain ⟨e2, rfl⟩ := e2
                  have : u = x := by omega
                  subst this
                  rw [sI_eq, if_pos (Or.inl ⟨rfl, rfl⟩)]
                · rw [sI_ne (by omega), if_neg (by omega)]
                  exact hl.2.2.2.2 u hu v hv
            · rw [sI_g (by omega), sI_g (by omega), sI_g (by omega)]
              exact sI_eq
          · have hm' : fig (M.1 7 t) n (p + 3) 1 9 = none := hm
            refine And.intro (fun q2 => absurd rfl q2) (fun _ => ?_)
            refine h0 (p + 3) _ ?_ (rfr_p rfr_refl) sI_eq
            unfold itP
            rw [if_neg (by omega), hx']
            simp only []
            rw [hy']
            simp only []
            rw [if_neg (by omega), hm']
        · refine c_hasPath1 (M := pM M (p + 2 + 1)) (D := D) (l := 1) hl hp.1 (by omega) (by omega) z ?_
          exact bad (Or.inr z)
      · have hy' : fig (M.1 7 t) n (p + 2) 0 (D 0 - 1) = none := hy
        refine And.intro (fun q2 => absurd rfl q2) (fun _ => ?_)
        refine h0 (p + 2) _ ?_ (rfr_p rfr_refl) sI_eq
        unfold itP
        rw [if_neg (by omega), hx']
        simp only []
        rw [hy']
    · rw [eu] at hx ⊢
      have hx' : fig (M.1 7 t) n (p + 1) 0 (D 0 - 1) = none := hx
      refine And.intro (fun q2 => absurd rfl q2) (fun _ => ?_)
      refine h0 (p + 1) _ ?_ (rfr_p rfr_refl) sI_eq
      unfold itP
      rw [if_neg (by omega), hx']
  · rw [e92] at q
    have q12 := nle_use (a := 12) q
    refine h0 p M ?_ rfr_refl h4
    unfold itP
    rw [if_pos q12]
end Paths
