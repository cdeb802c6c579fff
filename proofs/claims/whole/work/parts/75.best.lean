/-! ===== best: the reference ===== -/
def eq1 (D E : Nat → Nat) : Prop := ∀ j, j ≠ 53 + D 5 → j ≠ 61 + D 5 → j ≠ 69 + D 5 → E j = D j
theorem eq1_J {D E : Nat → Nat} (h : eq1 D E) (h5 : D 5 < 8) : eqJ D E := fun j hj => h j (fun q => hj ⟨D 5, Nat.le_refl _, h5, Or.inl q⟩) (fun q => hj ⟨D 5, Nat.le_refl _, h5, Or.inr (Or.inl q)⟩) (fun q => hj ⟨D 5, Nat.le_refl _, h5, Or.inr (Or.inr q)⟩)
theorem eq1_ly {D E : Nat → Nat} {x y m : Nat} (h : eq1 D E) : lyD E x y m = lyD D x y m := by
  have e5 : E 5 = D 5 := h 5 (by omega) (by omega) (by omega)
  funext j
  unfold lyD
  rw [e5]
  by_cases q1 : j = 5
  · rw [if_pos q1, if_pos q1]
  · rw [if_neg q1, if_neg q1]
    by_cases q2 : j = 53 + D 5
    · rw [if_pos q2, if_pos q2]
    · rw [if_neg q2, if_neg q2]
      by_cases q3 : j = 61 + D 5
      · rw [if_pos q3, if_pos q3]
      · rw [if_neg q3, if_neg q3]
        by_cases q4 : j = 69 + D 5
        · rw [if_pos q4, if_pos q4]
        · rw [if_neg q4, if_neg q4]
          exact h j q2 q3 q4
theorem adm_junk {D E : Nat → Nat} (hw : wf D) (h : eqJ D E) {x y : Nat} : adm E x y ↔ adm D x y := by
  have hb := bnd_of hw
  obtain ⟨b3, b4, b5, b6, b7, b8⟩ := hb
  have hp := pm_cong (eqJ_L h) hw.1.2.2.1 x y
  have lo : ∀ {j}, j < 53 → E j = D j := fun hj => h _ (nj_lo hj)
  have e4 := lo (show 4 < 53 by omega)
  have e5 := lo (show 5 < 53 by omega)
  unfold adm
  rw [hp, e4, e5]
  refine exists_congr (fun k => and_congr_right (fun hk => ?_))
  rw [lo (show 46 + k < 53 by omega), lo (show 46 + k + 1 < 53 by omega)]
  refine and_congr_right (fun _ => and_congr_right (fun _ => and_congr_right (fun _ => ?_)))
  refine forall_congr' (fun e => ?_)
  constructor
  · intro q he
    have := q he
    rw [h _ (nj_e he b5).1, h _ (nj_e he b5).2.1] at this
    exact this
  · intro q he
    rw [h _ (nj_e he b5).1, h _ (nj_e he b5).2.1]
    exact q he
section BestM
variable {d : Nat} {M : ab_M} {K : ab_K} {D : Nat → Nat}
theorem m_isPlace_e {j : Nat} {v : Int32} (hv : v = nI j) (hn : nwM M 54 0 D) (hb : D 0 ≤ 7) (hj : j < 1000) (h1 : j < D 0 → K (some (.inl 1)) M) (h0 : ¬ j < D 0 → K (some (.inl 0)) M) : ab_Call (d + 1) 186 [vr 49 0, vi v] M K := by
  subst hv
  by_cases q : j < D 0
  · exact m_isPlace1 hn q hb (h1 q)
  · exact m_isPlace0 hn hb (fun i hi e => q (by have := neq_use e; omega)) (h0 q)
theorem m_mayLure_e {x y : Nat} {u v : Int32} (hu : u = nI x) (hv : v = nI y) (hn : nwM M 54 0 D) (hw : wf D) (hx : x < 7) (hy : y < 7) (h1 : adm D x y → K (some (vi (nI 1))) M) (h0 : ¬ adm D x y → K (some (vi (nI 0))) M) : ab_Call (d + 1) 210 [vr 49 0, vi u, vi v] M K := by
  subst hu
  subst hv
  exact m_mayLure hn (bnd_of hw) hw.1 hw.2.2.2.2.2.2.1 hx hy h1 h0
theorem m_lays_e {x y m : Nat} {u v w : Int32} (hu : u = nI x) (hv : v = nI y) (hw : w = nI m) (hn : nwM M 54 0 D) (h5 : D 5 < 8) (hK : K none (lyM M (D 5) x y m)) : ab_Call d 211 [vr 49 0, vi u, vi v, vi w] M K := by
  subst hu
  subst hv
  subst hw
  exact m_lays hn h5 hK
theorem m_best (hn : nwM M 54 0 D) (hw : wf D) (h4 : 0 < D 4) (h5 : D 5 < 8) (h0 : D 1 = 0 → K (some (vi (-9))) M) (hK : 0 < D 1 → ∀ M', frJ (D 5) M M' → ((bst D 700).1 = 0 → K (some (vi (-9))) M') ∧ ((bst D 700).1 ≠ 0 → K (some (vi (nI (bst D 700).1))) (ab_sI M' 49 0 7 (nI (bst D 700).2)))) : ab_Call (d + 5) 231 [vr 49 0] M K := by
  refine ab_Call_nr (caX10_best rfl (atX10_best ?_))
  have hb := bnd_of hw
  have b4 := hb.2.1
  have w0 : D 0 ≤ 7 := hw.1.1
  have w1 : D 1 ≤ 4 := hw.1.2.1
  refine m_hasTrail1 hn h4 hb.2.1 ?_
  refine And.intro (fun _ => ?_) (fun q => absurd (neq_use (b := 8) (by rw [← nw hn (show 5 < 78 by omega)]; exact q)) (by omega))
  rcases Nat.eq_zero_or_pos (D 1) with hp | hp
  · refine atX10_best ?_
    refine And.intro (fun q => absurd q (by decide)) (fun _ => ?_)
    refine And.intro (fun _ => ?_) (fun q => absurd q (by rw [nw hn (by omega), hp]; decide))
    refine And.intro (fun q => absurd rfl q) (fun _ => ?_)
    exact h0 hp
  have key : ∀ c, c ≤ 700 → ∀ M3 E, frJ (D 5) M M3 → nwM M3 54 0 E → eq1 D E → ab_At miX10_best (d + 5) 31 [some (vr 49 0), some (vi (bI (bst D c).1)), some (vi (nI (bst D c).2)), some (vi (nI c))] [] M3 (fun r M => K (r.map ab_nr) M) := by
    refine up_ind fun c hc ih M3 E f3 n3 q3 => ?_
    refine atX10_best ?_
    have hbl := bst_le hw h5 hp c
    have fin : c = 700 → ((bI (bst D c).1 = -9 → K (some (vi (-9))) M3) ∧ (bI (bst D c).1 ≠ -9 → K (some (vi (bI (bst D c).1))) (ab_sI M3 49 0 7 (nI (bst D c).2)))) := by
      intro e
      subst e
      have := hK hp M3 f3
      by_cases w : (bst D 700).1 = 0
      · exact ⟨fun _ => this.1 w, fun v => absurd (by rw [w]; rfl) v⟩
      · rw [bI_p w]
        exact ⟨fun v => absurd v (n9 (by omega)), fun _ => this.2 w⟩
    have hwE := wf_junk hw (eq1_J q3 h5)
    have lo : ∀ {j}, j < 53 → E j = D j := fun hj => q3 _ (by omega) (by omega) (by omega)
    refine And.intro (fun q => ?_) (fun q => ?_)
    · have : c = 700 := by have := nle_use (a := 700) q; omega
      obtain ⟨x1, x2⟩ := fin this
      refine And.intro (fun v => ?_) (fun v => ?_)
      · refine caX10_answer rfl (atX10_answer ?_)
        exact x2 v
      · exact x1 v
    · have hc7 := nlt_use (b := 700) q
      refine And.intro (fun q => absurd q (by rw [nw n3 (by omega), lo (by omega)]; exact fun w => by have := nle_use (b := 0) w; omega)) (fun _ => ?_)
      have d1 : nI c / nI 100 = nI (c / 10 / 10) := by rw [pk_div (by omega) (by omega) (by omega), Nat.div_div_eq_div_mul]
      have d2 : ab_rem (nI c / nI 10) (nI 10) = nI (c / 10 % 10) := by rw [pk_div (by omega) (by omega) (by omega)]; exact pk_rem (by omega) (by omega) (by omega)
      have d3 : ab_rem (nI c) (nI 10) = nI (c % 10) := pk_rem (by omega) (by omega) (by omega)
      have hnx := ih hc7
      rw [← nI_1 c, bst] at hnx
      have skip : okc D c = false → ab_At miX10_best (d + 5) 31 [some (vr 49 0), some (vi (bI (bst D c).1)), some (vi (nI (bst D c).2)), some (vi (nI c + nI 1))] [] M3 (fun r M => K (r.map ab_nr) M) := by
        intro w
        rw [w] at hnx
        exact hnx M3 E f3 n3 q3
      refine And.intro (by decide) ?_
      refine And.intro (by decide) ?_
      refine And.intro (by decide) ?_
      refine And.intro (by decide) ?_
      refine m_isPlace_e d1 n3 (by rw [lo (by omega)]; exact w0) (by omega) (fun p1 => ?_) (fun p1 => ?_)
      · rw [lo (by omega)] at p1
        refine m_isPlace_e d2 n3 (by rw [lo (by omega)]; exact w0) (by omega) (fun p2 => ?_) (fun p2 => ?_)
        · rw [lo (by omega)] at p2
          have e3 : (ab_rem (nI c) (nI 10)).toInt64 = (nI (c % 10)).toInt64 := by rw [d3]
          refine c_in (a := nI 1) (b := nI 5) rfl rfl (fun v1 v2 => ?_) (fun v => ?_)
          · have v1 : nI 1 ≤ nI (c % 10) := by rw [← d3]; exact v1
            have v2 : nI (c % 10) ≤ nI 5 := by rw [← d3]; exact v2
            have v1 := nle_use v1
            have v2 := nle_use v2
            refine m_mayLure_e d1 d2 n3 hwE (by omega) (by omega) (fun ha => ?_) (fun ha => ?_)
            · have ha' := (adm_junk hw (eq1_J q3 h5)).mp ha
              have hok : okc D c = true := by
                unfold okc
                rw [adB_1 p1 p2 ha', decide_eq_true ⟨v1, v2⟩]
                rfl
              refine And.intro (fun q => absurd q (by decide)) (fun _ => ?_)
              have e5 : E 5 = D 5 := lo (by omega)
              refine m_lays_e d1 d2 d3 n3 (by omega) ?_
              have n4 := nwM_ly (x := c / 10 / 10) (y := c / 10 % 10) (m := c % 10) n3
              rw [eq1_ly q3] at n4
              have hw' : wf (lyD D (c / 10 / 10) (c / 10 % 10) (c % 10)) := wf_ly hw h5 ha' p2 v1 v2
              rw [e5] at n4 ⊢
              refine m_runs n4 hw' (fun M5 f5 hO => ?_)
              have lc : lyC D c = lyD D (c / 10 / 10) (c / 10 % 10) (c % 10) := rfl
              rw [← lc] at n4 hw' hO
              have x1 : lyC D c 1 = D 1 := lyD_o (by omega) (by omega) (by omega) (by omega)
              have x4 : lyC D c 4 = D 4 := lyD_o (by omega) (by omega) (by omega) (by omega)
              have n5 : nwM M5 54 0 (lyC D c) := frS_nw f5 (by omega) n4
              have e55 : M5.1 54 0 5 = nI (D 5 + 1) := nw n5 (by omega)
              have q6 : eq1 D (fun j => if j = 5 then D 5 else lyC D c j) := fun j j1 j2 j3 => by
                show (if j = 5 then D 5 else lyC D c j) = D j
                by_cases w : j = 5
                · rw [if_pos w, w]
                · rw [if_neg w]; exact lyD_o w j1 j2 j3
              have n6 : nwM (ab_sI M5 54 0 5 (M5.1 54 0 5 - nI 1)) 54 0 (fun j => if j = 5 then D 5 else lyC D c j) := fun j hj => by
                show _ = nI (if j = 5 then D 5 else lyC D c j)
                rw [Nat.zero_add]
                by_cases w : j = 5
                · subst w
                  rw [sI_eq, if_pos rfl, e55, pk_sub (by omega), Nat.add_sub_cancel]
                · rw [sI_k w, if_neg w]
                  exact nw n5 hj
              have f6 : frJ (D 5) M (ab_sI M5 54 0 5 (M5.1 54 0 5 - nI 1)) := by
                refine frJ_trans f3 ⟨fun g i k u1 u2 => ?_, fun g i k _ _ => by show M5.2.1 g i k = _; rw [f5.1]; rfl, fun g i k _ _ => by show M5.2.2 g i k = _; rw [f5.1]; rfl⟩
                by_cases w : g = 54 ∧ i = 0
                · obtain ⟨rfl, rfl⟩ := w
                  by_cases w : k = 5
                  · subst w
                    rw [sI_eq, e55, pk_sub (by omega), Nat.add_sub_cancel, nw n3 (by omega), e5]
                  · rw [sI_k w, f5.2 54 0 (by omega)]
                    unfold lyM
                    have nk : ∀ e, junk (D 5) e → k ≠ e := fun e he q => u2 ⟨rfl, rfl, by rw [q]; exact he⟩
                    rw [sI_k w, sI_k (nk _ ⟨D 5, Nat.le_refl _, h5, Or.inr (Or.inr rfl)⟩), sI_k (nk _ ⟨D 5, Nat.le_refl _, h5, Or.inr (Or.inl rfl)⟩), sI_k (nk _ ⟨D 5, Nat.le_refl _, h5, Or.inl rfl⟩)]
                · have nw' : ∀ {k'}, ¬ (g = 54 ∧ i = 0 ∧ k = k') := fun q => w ⟨q.1, q.2.1⟩
                  rw [sI_ne nw', f5.2 g i (fun q => u1 (by unfold scr; omega))]
                  unfold lyM
                  rw [sI_ne nw', sI_ne nw', sI_ne nw', sI_ne nw']
              have hO6 : moO (lyC D c) (ab_sI M5 54 0 5 (M5.1 54 0 5 - nI 1)) := hO
              have o1 : (ab_sI M5 54 0 5 (M5.1 54 0 5 - nI 1)).1 54 0 1 = nI (lyC D c 1) := by rw [nw n6 (by omega)]; rfl
              have o4 : (ab_sI M5 54 0 5 (M5.1 54 0 5 - nI 1)).1 54 0 4 = nI (lyC D c 4) := by rw [nw n6 (by omega)]; rfl
              refine m_firstAt2 (k := lyC D c 4 - 1) (by rw [o4, pk_sub (by omega)]) o1 hw' hO6 (by omega) (by omega) (fun f hf => ?_)
              refine m_inn2 o4 hw' hf.1 (by omega) hO6 ?_
              have efm : cmv (lyC D c) (lyC D c 1) (kds (lyC D c)) (lyC D c 4 - 1) f = fmE (lyC D c) := fst1_mn hf (by have := cmv_le hw' (H := lyC D c 1) (kd := kds (lyC D c)) (i := f) (lyC D c 4 - 1); have := (bnd_of hw').2.1; omega)
              rw [efm]
              have hfl := fmE_le hw' (by omega)
              rw [hok, if_pos rfl] at hnx
              have yes : ((bst D c).1 = 0 ∨ (bst D c).2 < fmE (lyC D c)) → ab_At miX10_best (d + 5) 31 [some (vr 49 0), some (vi (nI c)), some (vi (nI (fmE (lyC D c)))), some (vi (nI c + nI 1))] [] (ab_sI M5 54 0 5 (M5.1 54 0 5 - nI 1)) (fun r M => K (r.map ab_nr) M) := by
                intro w
                rw [if_pos w] at hnx
                have := hnx (ab_sI M5 54 0 5 (M5.1 54 0 5 - nI 1)) _ f6 n6 q6
                rw [bI_p (by show c ≠ 0; omega)] at this
                exact this
              refine And.intro (fun v => ?_) (fun v => ?_)
              · refine yes (Or.inl ?_)
                by_cases w : (bst D c).1 = 0
                · exact w
                · rw [bI_p w] at v
                  exact absurd v (n9 (by omega))
              · have w : (bst D c).1 ≠ 0 := fun w => v (by rw [w]; rfl)
                refine And.intro (fun v => ?_) (fun v => ?_)
                · have v := nle_use v
                  rw [if_neg (by omega)] at hnx
                  exact hnx (ab_sI M5 54 0 5 (M5.1 54 0 5 - nI 1)) _ f6 n6 q6
                · exact yes (Or.inr (nlt_use v))
            · exact And.intro (fun _ => skip (okc_0 (Or.inr (Or.inr (adB_0 (fun w => ha ((adm_junk hw (eq1_J q3 h5)).mpr w.2.2))))))) (fun q => absurd rfl q)
          · exact skip (by
              unfold okc
              rw [decide_eq_false (fun w => v ⟨by rw [d3]; exact nI_le w.1 (by omega), by rw [d3]; exact nI_le w.2 (by omega)⟩)]
              rfl)
        · exact skip (okc_0 (Or.inr (Or.inr (adB_0 (fun w => p2 (by rw [lo (by omega)]; exact w.2.1))))))
      · exact skip (okc_0 (Or.inr (Or.inr (adB_0 (fun w => p1 (by rw [lo (by omega)]; exact w.1))))))
  exact key 0 (Nat.zero_le _) M D (frJ_A frA_refl) hn (fun _ _ _ _ => rfl)
end BestM
