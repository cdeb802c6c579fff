/-! ===== a country's text: the class's whole ===== -/
theorem itm_le {c : Nat → Int32} {n p : Nat} {D : Nat → Nat} {b : Bool} {x : Nat × (Nat → Nat)} (hp : p < n) (h : itm c n D p b = .inr x) : x.1 ≤ n := by
  unfold itm itO itH itP at h
  repeat' split at h
  all_goals first | (have h' := Sum.inr.inj h; subst h'; first | (show p + 1 ≤ n; omega) | (rename_i e; have := (fig_some e).1; show _ ≤ n; omega)) | (exact absurd h (by simp))
theorem itm_no {c : Nat → Int32} {n p q : Nat} {D : Nat → Nat} {b : Bool} (h : itm c n D p b = .inl q) : q ≤ p + 3 := by
  unfold itm itO itH itP at h
  repeat' split at h
  all_goals first | (have h' := Sum.inl.inj h; omega) | (exact absurd h (by simp))
theorem prs_le {c : Nat → Int32} {n : Nat} : ∀ {k : Nat} {D : Nat → Nat} {p : Nat} {b : Bool} {q : Nat}, p ≤ n → prs c n k D p b = .inl q → q ≤ n + 3
  | 0, _, p, _, q, hp, h => by have := Sum.inl.inj h; omega
  | k + 1, D, p, b, q, hp, h => by
    rw [prs] at h
    by_cases q1 : n ≤ p
    · rw [if_pos q1] at h
      split at h
      · have := Sum.inl.inj h; omega
      · exact absurd h (by simp)
    · rw [if_neg q1] at h
      by_cases q2 : c p = nI 32
      · rw [if_pos q2] at h
        exact prs_le (by omega) h
      · rw [if_neg q2] at h
        cases e : itm c n D p b with
        | inl z =>
          rw [e] at h
          have := itm_no e
          have := Sum.inl.inj h
          omega
        | inr x =>
          rw [e] at h
          exact prs_le (itm_le (by omega) e) h
theorem rfr_A {M M' : ab_M} (h : rfr M M') : frA M M' := ⟨fun g i k q => h.2 g i k (fun w => q (by unfold scr; omega)), fun g i k _ _ => by rw [h.1], fun g i k _ _ => by rw [h.1]⟩
section Fault
variable {d t n : Nat} {M : ab_M} {K : ab_K} {D : Nat → Nat}
theorem c_readItem {p : Nat} (h4 : M.1 13 0 4 = nI p) (hB : rdB t n M) (ht : t < 4) (hn : n ≤ 80) (hpn : p < n) (hl : ldC M 1 D) (hp : pwf D) (h2 : 2 ≤ D 0) (h0 : ∀ q M', itm (M.1 7 t) n D p false = .inl q → rfr M M' → M'.1 13 0 4 = nI q → K (some (.inl 0)) M') (hs : ∀ q E M', itm (M.1 7 t) n D p false = .inr (q, E) → pwf E → 2 ≤ E 0 → E 3 = D 3 → rfr M M' → ldC M' 1 E → M'.1 13 0 1 = M.1 13 0 1 → M'.1 13 0 4 = nI q → K (some (.inl 1)) M') : ab_Call (d + 3) 79 [vr 13 0] M K := by
  refine caX6_readItem rfl (atX6_readItem ?_)
  refine c_signE h4 hB ht hn (by omega) (fun _ => ?_) (fun q => by omega)
  refine And.intro (fun q => ?_) (fun q => ?_)
  · have ei : itm (M.1 7 t) n D p false = itH (M.1 7 t) D p := by
      show (if M.1 7 t p = nI 45 then _ else _) = _
      exact if_neg q
    refine c_readHound h4 hB ht hn hpn hl hp (fun q hq h => h0 q M (ei.trans hq) rfr_refl h) (fun kd M' hq k5 d2 d1 r' l' e1 e4 => ?_)
    refine hs (p + 1) (adH D kd) M' (ei.trans hq) (pwf_H hp d2 d1 k5) ?_ ?_ r' l' e1 e4
    · show 2 ≤ (if 0 = 1 then _ else if 0 = 6 + D 1 then _ else D 0)
      rw [if_neg (by omega), if_neg (by omega)]
      exact h2
    · show (if 3 = 1 then _ else if 3 = 6 + D 1 then _ else D 3) = _
      rw [if_neg (by omega), if_neg (by omega)]
  · have ei : itm (M.1 7 t) n D p false = itP (M.1 7 t) n D p := by
      show (if M.1 7 t p = nI 45 then _ else _) = _
      exact if_pos q
    refine c_readPath h4 hB ht hn hpn hl hp h2 (fun q M' hq r' h => h0 q M' (ei.trans hq) r' h) (fun x y m M' hq d2 hx hy hxy m1 m9 _ r' l' e1 e4 => ?_)
    refine hs (p + 4) (adP D x y m) M' (ei.trans hq) (pwf_P hp d2 hx hy hxy m1 m9) ?_ ?_ r' l' e1 e4
    · rw [adP_lo (by omega) (by omega) (by omega) (by omega)]; exact h2
    · exact adP_lo (by omega) (by omega) (by omega) (by omega)
theorem c_faultOf {v : Int32} (hv : v = nI n) (ht : t < 4) (hn : n ≤ 80) (h0 : ∀ q M', P (M.1 7 t) n (fun _ => 0) 0 true = .inl q → q ≤ n + 3 → frA M M' → K (some (vi (nI q))) M') (hs : ∀ E M', P (M.1 7 t) n (fun _ => 0) 0 true = .inr E → pwf E → 2 ≤ E 0 → frA M M' → ldC M' 1 E → M'.1 13 0 1 = nI (E 3) → K (some (vi (-9))) M') : ab_Call (d + 4) 74 [vr 13 0, vr 7 t, vi v] M K := by
  subst hv
  refine ab_Call_nr (caX6_faultOf rfl (atX6_faultOf ?_))
  have fA0 : frA M (ab_sI (ab_sI (ab_sX M 13 0 2 t) 13 0 3 (nI n)) 13 0 4 (nI 0)) := by
    refine frA_sI (frA_sI ⟨fun _ _ _ _ => rfl, fun _ _ _ _ _ => rfl, fun g i k q _ => ?_⟩ (by unfold scr; omega)) (by unfold scr; omega)
    show (if g = 13 ∧ i = 0 ∧ k = 2 then t else M.2.2 g i k) = _
    exact if_neg (fun w => q w.1)
  have hB0 : rdB t n (ab_sI (ab_sI (ab_sX M 13 0 2 t) 13 0 3 (nI n)) 13 0 4 (nI 0)) := ⟨rfl, rfl⟩
  have e40 : (ab_sI (ab_sI (ab_sX M 13 0 2 t) 13 0 3 (nI n)) 13 0 4 (nI 0)).1 13 0 4 = nI 0 := rfl
  have e70 : (ab_sI (ab_sI (ab_sX M 13 0 2 t) 13 0 3 (nI n)) 13 0 4 (nI 0)).1 7 t = M.1 7 t := rfl
  generalize hM0 : ab_sI (ab_sI (ab_sX M 13 0 2 t) 13 0 3 (nI n)) 13 0 4 (nI 0) = M0 at fA0 hB0 e40 e70
  have key : ∀ r D p it M3, p + r = n → rfr M0 M3 → M3.1 13 0 4 = nI p → ldC M3 1 D → pwf D → 2 ≤ D 0 → M3.1 13 0 1 = nI (D 3) → it ≤ p → P (M.1 7 t) n (fun _ => 0) 0 true = P (M.1 7 t) n D p false → (p < n → ¬ M.1 7 t p = nI 32) → ab_At miX6_faultOf (d + 4) 44 [some (vr 13 0), none, none, some (vi (nI it))] [] M3 (fun r M => K (r.map ab_nr) M) := by
    intro r
    induction r using Nat.strongRecOn with
    | ind r ih =>
      intro D p it M3 hr r3 e4 l3 hp h2 e1 hit hP hnb
      refine atX6_faultOf ?_
      have hB3 := rfr_B r3 hB0
      have e7 : M3.1 7 t = M.1 7 t := (rfr_7 r3).trans e70
      have f3 := frA_trans fA0 (rfr_A r3)
      rcases Nat.lt_or_ge p n with hpn | hpn
      · refine And.intro (fun q => absurd (nle_use (a := 80) q) (by omega)) (fun _ => ?_)
        refine And.intro (fun q => absurd (nle_use (a := n) (b := p) (by rw [← e4, ← hB3.2]; exact q)) (by omega)) (fun _ => ?_)
        refine c_readItem e4 hB3 ht hn hpn l3 hp h2 (fun q M' hq r' e4' => ?_) (fun q E M' hq hpE h2E h3E r' l' e1' e4' => ?_)
        · rw [e7] at hq
          have hq3 := itm_no hq
          have := h0 q M' (hP.trans (P_no hpn (hnb hpn) hq)) (by omega) (frA_trans f3 (rfr_A r'))
          rw [← e4'] at this
          exact this
        · rw [e7] at hq
          have hqu := itm_up hq
          have hql := itm_le hpn hq
          simp only [] at hqu hql
          have r5 := rfr_trans r3 r'
          have e75 : M'.1 7 t = M.1 7 t := (rfr_7 r5).trans e70
          refine c_skipE e4' (rfr_B r5 hB0) ht hn (by omega) (fun p' a1 a2 a3 a4 => ?_)
          rw [e75] at a3 a4
          have := ih (n - p') (by omega) E p' (it + 1) (pM M' p') (by omega) (rfr_p r5) sI_eq l' hpE h2E (by
            show M'.1 13 0 1 = _
            rw [e1', e1, h3E]) (by omega) (hP.trans ((P_yes hpn (hnb hpn) hq).trans (a3 E false))) a4
          rw [← nI_1 it] at this
          exact this
      · have fin : K (some (vi (-9))) M3 := hs D M3 (hP.trans (by rw [P_end hpn]; rfl)) hp h2 f3 l3 e1
        refine And.intro (fun _ => fin) (fun _ => ?_)
        exact And.intro (fun _ => fin) (fun q => absurd (nlt_use (a := p) (b := n) (by rw [← e4, ← hB3.2]; exact q)) (by omega))
  refine c_clear (fun M1 r1 g1 l1 => ?_)
  rw [hM0] at r1 g1
  have e41 : M1.1 13 0 4 = nI 0 := by rw [g1]; exact e40
  have e71 : M1.1 7 t = M.1 7 t := (rfr_7 r1).trans e70
  refine c_skipE e41 (rfr_B r1 hB0) ht hn (by omega) (fun p a1 a2 a3 a4 => ?_)
  rw [e71] at a3 a4
  have f1 := frA_trans fA0 (rfr_A r1)
  have hz : pwf (fun _ => 0) := ⟨⟨by show 0 ≤ 7; omega, by show 0 ≤ 4; omega, by show 0 ≤ 12; omega, fun i hi => by show 0 ≤ 5; omega, fun k hk => absurd hk (by show ¬ k < 0; omega)⟩, by show 0 ≤ 9; omega, rfl, rfl, rfl⟩
  have hpl : p ≤ n := by omega
  refine c_readOpening (M := pM M1 p) (D := fun _ => 0) (t := t) (n := n) (p := p) sI_eq (rfr_B (rfr_p r1) hB0) ht hn (by omega) l1 rfl (fun q => ?_) (fun q M' hpn hq r' e4' => ?_) (fun q f g M' hpn hq qn f2 f7 g9 r' l' e1' e4' q3 => ?_)
  · have := h0 p (pM M1 p) ((a3 _ true).trans (by rw [P_end q]; rfl)) (by omega) (frA_trans f1 (rfr_A (rfr_p rfr_refl)))
    rw [← (sI_eq : (pM M1 p).1 13 0 4 = nI p)] at this
    exact this
  · have hq' : itO (M.1 7 t) n (fun _ => 0) p = .inl q := by rw [← e71]; exact hq
    have hq'' : itm (M.1 7 t) n (fun _ => 0) p true = .inl q := hq'
    have hq3 := itm_no hq''
    have := h0 q M' ((a3 _ true).trans (P_no hpn (a4 hpn) hq'')) (by omega) (frA_trans f1 (rfr_A (rfr_trans (rfr_p rfr_refl) r')))
    rw [← e4'] at this
    exact this
  · have hq' : itO (M.1 7 t) n (fun _ => 0) p = .inr (q, adO (fun _ => 0) f g) := by rw [← e71]; exact hq
    have hq'' : itm (M.1 7 t) n (fun _ => 0) p true = .inr (q, adO (fun _ => 0) f g) := hq'
    have r5 := rfr_trans (rfr_p (p := p) r1) r'
    have e75 : M'.1 7 t = M.1 7 t := (rfr_7 r5).trans e70
    obtain ⟨w1, w2⟩ := pwf_O hz rfl rfl f2 f7 g9
    refine c_skipE e4' (rfr_B r5 hB0) ht hn (by omega) (fun p' b1 b2 b3 b4 => ?_)
    rw [e75] at b3 b4
    exact key (n - p') (adO (fun _ => 0) f g) p' 0 (pM M' p') (by omega) (rfr_p r5) sI_eq l' w1 w2 e1' (by omega) ((a3 _ true).trans ((P_yes hpn (a4 hpn) hq'').trans (b3 _ false))) b4
end Fault
