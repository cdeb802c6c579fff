/-! ===== the trial course ===== -/
def tb (M : ab_M) (D : Nat → Nat) : Prop := M.1 14 4 0 = nI (D 3) ∧ M.1 14 4 1 = nI (D 4) ∧ M.1 14 4 3 = nI (D 77) ∧ (∀ k, k < D 4 → M.1 15 4 k = nI (D (46 + k))) ∧ ∀ e, e < D 5 → M.1 16 4 e = nI (D (53 + e)) ∧ M.1 17 4 e = nI (D (61 + e)) ∧ M.1 18 4 e = nI (D (69 + e))
theorem tb_cr {M : ab_M} {D : Nat → Nat} (h : tb M D) (h5 : M.1 14 4 2 = nI (D 5)) : crC M 4 D := ⟨h.1, h.2.1, h5, h.2.2.1, h.2.2.2.1, h.2.2.2.2⟩
theorem cr_tb {M : ab_M} {D : Nat → Nat} (h : crC M 4 D) : tb M D := ⟨h.1, h.2.1, h.2.2.2.1, h.2.2.2.2.1, h.2.2.2.2.2⟩
/-- an end set in the trial course -/
def seM (M : ab_M) (e x y m : Nat) : ab_M := ab_sI (ab_sI (ab_sI M 16 4 e (nI x)) 17 4 e (nI y)) 18 4 e (nI m)
theorem tb_ly {M : ab_M} {D : Nat → Nat} {x y m : Nat} (h : tb M D) (hb : bnd D) (h5 : D 5 < 8) : tb (seM M (D 5) x y m) (lyD D x y m) := by
  obtain ⟨h1, h2, h3, h4, h6⟩ := h
  have b4 := hb.2.1
  have e4 : lyD D x y m 4 = D 4 := lyD_o (by omega) (by omega) (by omega) (by omega)
  refine ⟨by rw [lyD_o (by omega) (by omega) (by omega) (by omega)]; exact h1, by rw [e4]; exact h2, by rw [lyD_o (by omega) (by omega) (by omega) (by omega)]; exact h3, fun k hk => ?_, fun e he => ?_⟩
  · rw [e4] at hk
    rw [lyD_t (by omega)]
    exact h4 k hk
  · rw [lyD_5] at he
    have f1 : (seM M (D 5) x y m).1 16 4 e = (ab_sI M 16 4 (D 5) (nI x)).1 16 4 e := rfl
    have f2 : (seM M (D 5) x y m).1 17 4 e = (ab_sI (ab_sI M 16 4 (D 5) (nI x)) 17 4 (D 5) (nI y)).1 17 4 e := rfl
    have f3 : (seM M (D 5) x y m).1 18 4 e = (ab_sI (ab_sI (ab_sI M 16 4 (D 5) (nI x)) 17 4 (D 5) (nI y)) 18 4 (D 5) (nI m)).1 18 4 e := rfl
    rw [f1, f2, f3]
    by_cases q : e = D 5
    · subst q
      rw [lyD_x, lyD_y, lyD_m, sI_eq, sI_eq, sI_eq]
      exact ⟨rfl, rfl, rfl⟩
    · obtain ⟨a1, a2, a3⟩ := lyD_e (x := x) (y := y) (m := m) h5 (show e < D 5 by omega)
      rw [a1, a2, a3]
      obtain ⟨z1, z2, z3⟩ := h6 e (by omega)
      exact ⟨by rw [sI_k q]; exact z1, by rw [sI_k q]; exact z2, by rw [sI_k q]; exact z3⟩
theorem tb_un {M : ab_M} {D : Nat → Nat} {x y m : Nat} (h : tb M (lyD D x y m)) (hb : bnd D) (h5 : D 5 < 8) : tb M D := by
  obtain ⟨h1, h2, h3, h4, h6⟩ := h
  have b4 := hb.2.1
  have e4 : lyD D x y m 4 = D 4 := lyD_o (by omega) (by omega) (by omega) (by omega)
  rw [lyD_o (by omega) (by omega) (by omega) (by omega)] at h1 h3
  rw [e4] at h2 h4
  refine ⟨h1, h2, h3, fun k hk => ?_, fun e he => ?_⟩
  · have := h4 k hk
    rw [lyD_t (by omega)] at this
    exact this
  · have := h6 e (by rw [lyD_5]; omega)
    obtain ⟨a1, a2, a3⟩ := lyD_e (x := x) (y := y) (m := m) h5 he
    rw [a1, a2, a3] at this
    exact this
theorem tb_fr {M M' : ab_M} {D : Nat → Nat} (h : tb M D) (h0 : M'.1 14 4 0 = M.1 14 4 0) (h1 : M'.1 14 4 1 = M.1 14 4 1) (h3 : M'.1 14 4 3 = M.1 14 4 3) (h5 : M'.1 15 4 = M.1 15 4) (h6 : M'.1 16 4 = M.1 16 4) (h7 : M'.1 17 4 = M.1 17 4) (h8 : M'.1 18 4 = M.1 18 4) : tb M' D := by
  unfold tb at *
  rw [h0, h1, h3, h5, h6, h7, h8]
  exact h
theorem tb_S {a b : Nat} {M M' : ab_M} {D : Nat → Nat} (h : tb M D) (f : frS a b M M') (ha : 18 < a) : tb M' D :=
  tb_fr h (congrFun (f.2 14 4 (by omega)) 0) (congrFun (f.2 14 4 (by omega)) 1) (congrFun (f.2 14 4 (by omega)) 3) (f.2 15 4 (by omega)) (f.2 16 4 (by omega)) (f.2 17 4 (by omega)) (f.2 18 4 (by omega))
section Prepare
variable {d : Nat} {M : ab_M} {K : ab_K} {D : Nat → Nat}
theorem c_prepare (hl : ldC M 0 D) (hc : crC M 0 D) (hw : wf D) (hK : ∀ M', frA M M' → tb M' D → M'.1 14 4 2 = nI (D 5) → hdC M' (D 1) (kds D) → M'.1 39 0 5 = nI (cnt D 70) → opn D M' 40 70 → K none M') : ab_Call (d + 3) 67 [vr 39 0] M K := by
  refine caX5_prepare rfl (atX5_prepare ?_)
  have hb := bnd_of hw
  have h0 : D 0 ≤ 7 := hw.1.1
  have hd := hw.2.2.2.2.2.2.1
  refine c_take (a := 4) (b := 0) (by omega) (fun M1 f1 f2 f3 => ?_)
  have fA1 : frA M M1 := ⟨fun g i k q => by rw [f1 g i (fun w => q (by unfold scr; omega))], fun g i k _ _ => by rw [f2], fun g i k _ _ => by rw [f2]⟩
  have hc4 := f3 D hb hc
  refine c_gather (frA_ld fA1 hl) hw.1 (fun M2 g1 g2 => ?_)
  have fA2 : frA M M2 := frA_trans fA1 (frA_S g1 (by omega))
  have hl2 := frA_ld fA2 hl
  have hc2 := frA_cr fA2 (by omega) hc
  have ht2 : tb M2 D := tb_S (cr_tb hc4) g1 (by omega)
  have h52 : M2.1 14 4 2 = nI (D 5) := by rw [g1.2 14 4 (by omega)]; exact hc4.2.2.1
  have e0 : M2.1 9 0 0 = nI (D 0) := hl2.1
  have out : ∀ x, x ≤ D 0 → ∀ M3, frS 39 40 M2 M3 → M3.1 39 0 5 = nI (cnt D (10 * x)) → opn D M3 40 (10 * x) → ab_At miX5_prepare (d + 3) 29 [some (vr 39 0), some (vi (nI x))] [] M3 K := by
    refine up_ind fun x hx ih M3 k1 k2 k3 => ?_
    refine atX5_prepare ?_
    have e3 : M3.1 9 0 0 = nI (D 0) := by rw [k1.2 9 0 (by omega)]; exact e0
    refine And.intro (fun q => ?_) (fun q => ?_)
    · rw [e3] at q
      have : x = D 0 := by have := nle_use q; omega
      subst this
      have no : ∀ c, 10 * D 0 ≤ c → c < 70 → adB D c = false := fun c h1 h2 => adB_0 (fun w => by omega)
      refine hK M3 (frA_trans fA2 (frA_S k1 (by omega))) (tb_S ht2 k1 (by omega)) (by rw [k1.2 14 4 (by omega)]; exact h52) (frS_hd k1 (by omega) g2) ?_ (opn_up k3 no)
      rw [k2, cnt_same (by omega) no]
    · rw [e3] at q
      have hxn := nlt_use q
      have inn : ∀ t, t ≤ D 0 → ∀ M3, frS 39 40 M2 M3 → M3.1 39 0 5 = nI (cnt D (10 * x + t)) → opn D M3 40 (10 * x + t) → ab_At miX5_prepare (d + 3) 42 [some (vr 39 0), some (vi (nI x)), some (vi (nI t))] [] M3 K := by
        refine up_ind fun t ht ih2 M3 k1 k2 k3 => ?_
        refine atX5_prepare ?_
        have e3 : M3.1 9 0 0 = nI (D 0) := by rw [k1.2 9 0 (by omega)]; exact e0
        refine And.intro (fun q => ?_) (fun q => ?_)
        · rw [e3] at q
          have : t = D 0 := by have := nle_use q; omega
          subst this
          have no : ∀ c, 10 * x + D 0 ≤ c → c < 10 * (x + 1) → adB D c = false := fun c h1 h2 => adB_0 (fun w => by omega)
          have := ih hxn M3 k1 (by rw [k2, cnt_same (by omega) no]) (opn_up k3 no)
          rw [← nI_1 x] at this
          exact this
        · rw [e3] at q
          have htn := nlt_use q
          have hdv : (10 * x + t) / 10 = x ∧ (10 * x + t) % 10 = t := by omega
          have skip : adB D (10 * x + t) = false → ab_At miX5_prepare (d + 3) 42 [some (vr 39 0), some (vi (nI x)), some (vi (nI t + nI 1))] [] M3 K := by
            intro w
            have := ih2 htn M3 k1 (by rw [k2, ← Nat.add_assoc, cnt_0 w]) (by rw [← Nat.add_assoc]; exact opn_up k3 (fun c h1 h2 => by have : c = 10 * x + t := by omega
                                                                                                                                      rw [this]; exact w))
            rw [← nI_1 t] at this
            exact this
          have hcl := cnt_all hw.1
          have hcm := cnt_mono (D := D) (show 10 * x + t ≤ 70 by omega)
          refine And.intro (fun q => ?_) (fun q => ?_)
          · rw [k2] at q
            have q := nle_use (a := 24) q
            refine skip ?_
            cases w : adB D (10 * x + t)
            · rfl
            · have := cnt_lt hw.1 (show 10 * x + t < 70 by omega) w
              omega
          · rw [k2] at q
            have q := nlt_use (b := 24) q
            refine c_admits (frS_ld k1 (by omega) hl2) (frS_cr k1 (by omega) hc2) hb hw.1 hd (by omega) (by omega) (fun ha => ?_) (fun ha => ?_)
            · have w : adB D (10 * x + t) = true := adB_1 (by omega) (by omega) (by rw [hdv.1, hdv.2]; exact ha)
              refine ix_i (cnt D (10 * x + t)) k2 (show _ < 24 by omega) ?_
              have hv : nI 10 * nI x + nI t = nI (10 * x + t) := by rw [pk_mul, nI_add]
              have h2 := opn_set k3 w
              rw [← hv] at h2
              have e5 : (ab_sI M3 40 0 (cnt D (10 * x + t)) (nI 10 * nI x + nI t)).1 39 0 5 = nI (cnt D (10 * x + t)) := k2
              have := ih2 htn (ab_sI (ab_sI M3 40 0 (cnt D (10 * x + t)) (nI 10 * nI x + nI t)) 39 0 5 ((ab_sI M3 40 0 (cnt D (10 * x + t)) (nI 10 * nI x + nI t)).1 39 0 5 + nI 1)) (frS_sI (frS_sI k1 (by omega) (by omega)) (by omega) (by omega)) (by rw [sI_eq, e5, ← Nat.add_assoc, cnt_1 w, nI_add]) (by rw [← Nat.add_assoc]; exact h2)
              rw [← nI_1 t] at this
              exact this
            · exact skip (adB_0 (fun w => by rw [hdv.1, hdv.2] at w; exact ha w.2.2))
      exact inn 0 (Nat.zero_le _) M3 k1 k2 k3
  exact out 0 (Nat.zero_le _) _ (frS_sI frS_refl (by omega) (by omega)) rfl (fun j hj => absurd hj (by omega))
end Prepare
