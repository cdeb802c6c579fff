/-! ===== the country's plain calls ===== -/
def upN (D : Nat → Nat) (k v : Nat) : Nat → Nat := fun j => if j = k then v else D j
theorem upN_eq {D : Nat → Nat} {k v : Nat} : upN D k v k = v := if_pos rfl
theorem upN_ne {D : Nat → Nat} {k v j : Nat} (h : j ≠ k) : upN D k v j = D j := if_neg h
theorem pmr_cong {D E : Nat → Nat} {x y : Nat} : ∀ {n : Nat}, (∀ k, k < n → D (10 + k) = E (10 + k) ∧ D (22 + k) = E (22 + k) ∧ D (34 + k) = E (34 + k)) → pmr D x y n = pmr E x y n
  | 0, _ => rfl
  | n + 1, h => by
    obtain ⟨a, b, c⟩ := h n (by omega)
    rw [pmr, pmr, a, b, c, pmr_cong (fun k hk => h k (by omega))]
/-- the same land -/
def eqL (D E : Nat → Nat) : Prop := ∀ j, (j < 3 ∨ (6 ≤ j ∧ j < 46)) → E j = D j
theorem pm_cong {D E : Nat → Nat} (h : eqL D E) (h2 : D 2 ≤ 12) (x y : Nat) : pm E x y = pm D x y := by
  unfold pm
  rw [h 2 (by omega)]
  exact pmr_cong (fun k hk => ⟨h _ (by omega), h _ (by omega), h _ (by omega)⟩)
theorem wfL_cong {D E : Nat → Nat} (h : eqL D E) (hL : wfL D) : wfL E := by
  obtain ⟨w0, w1, w2, w3, w4⟩ := hL
  refine ⟨by rw [h 0 (by omega)]; exact w0, by rw [h 1 (by omega)]; exact w1, by rw [h 2 (by omega)]; exact w2, fun i hi => ?_, fun k hk => ?_⟩
  · rw [h 1 (by omega)] at hi
    rw [h (6 + i) (by omega)]
    exact w3 i hi
  · rw [h 2 (by omega)] at hk
    rw [h (10 + k) (by omega), h (22 + k) (by omega), h (34 + k) (by omega), h 0 (by omega)]
    exact w4 k hk
theorem ldC_cong {M : ab_M} {l : Nat} {D E : Nat → Nat} (h : eqL D E) (hL : wfL D) (hc : ldC M l D) : ldC M l E := by
  obtain ⟨c1, c2, c3, c4, c5⟩ := hc
  obtain ⟨w0, w1, w2, w3, w4⟩ := hL
  refine ⟨by rw [h 0 (by omega)]; exact c1, by rw [h 1 (by omega)]; exact c2, by rw [h 2 (by omega)]; exact c3, fun i hi => ?_, fun x hx y hy => ?_⟩
  · rw [h 1 (by omega)] at hi
    rw [h (6 + i) (by omega)]
    exact c4 i hi
  · rw [pm_cong h w2]
    exact c5 x hx y hy
theorem kp_cong {M : ab_M} {D E : Nat → Nat} (h : eqL D E) (hk : kp_ok M D) : kp_ok M E := by
  intro k hk3
  obtain ⟨a, b⟩ := hk k hk3
  refine ⟨a, b.imp (fun q => q) (fun q => ?_)⟩
  obtain ⟨q1, q2, F, q3, q4, q5⟩ := q
  exact ⟨q1, by rw [h 0 (by omega)]; exact q2, F, q3, fun j hj => (q4 j hj).trans (h j hj).symm, q5⟩
/-- the parts of what holds -/
theorem Rel_D {M : ab_M} (h : Rel M) : ∃ D, wf D ∧ (D 0 = 0 ∨ 2 ≤ D 0) ∧ (D 0 = 0 → ∀ k, k < 78 → D k = 0) ∧ ldC M 0 D ∧ crC M 0 D ∧ nwM M 54 0 D ∧ kp_ok M D := h.2.2.2.2
theorem Rel_new {M M' : ab_M} (hR : Rel M) (h1 : rw_ok M') (h2 : tx_ok M') (h3 : sc_ok M') (h7 : M'.1 70 0 = M.1 70 0) {E : Nat → Nat} (w : wf E) (w2 : E 0 = 0 ∨ 2 ≤ E 0) (w3 : E 0 = 0 → ∀ k, k < 78 → E k = 0) (hl : ldC M' 0 E) (hc : crC M' 0 E) (hn : nwM M' 54 0 E) (hk : kp_ok M' E) (h8 : M'.2.2 49 0 27 = M.2.2 49 0 27 ∧ M'.2.2 49 0 28 = M.2.2 49 0 28 := by exact ⟨rfl, rfl⟩) : Rel M' := by
  refine ⟨h1, h2, h3, ?_, E, w, w2, w3, hl, hc, hn, hk⟩
  have hfc := hR.2.2.2.1
  unfold fc_ok wx_ok at *
  rw [h7, h8.1, h8.2]
  exact hfc
section Ops4
variable {d : Nat} {M : ab_M} {K : ab_K} {D : Nat → Nat}
theorem op_minutes {x y : Int32} (hR : Rel M) : OpI (d + 3) 115 205 [vi x, vi y] M := by
  obtain ⟨D, hw, hw2, hw3, hl, hc, hn, hk⟩ := Rel_D hR
  have hb0 := hw.1.1
  have bad : (∀ j, j < D 0 → x ≠ nI j) ∨ (∀ j, j < D 0 → y ≠ nI j) ∨ x = y → OpI (d + 3) 115 205 [vi x, vi y] M := by
    intro h
    have mb : ab_Call (d + 3) 205 [vr 49 0, vi x, vi y] M (fun r2 M2 => (∃ v, some (vi (-1)) = some (vi v) ∧ r2 = some (vi v)) ∧ Rel M2) := by
      refine ab_Call_nr (caX10_minutes rfl (atX10_minutes ?_))
      rcases ix_cases x (n := D 0) (by omega) with ⟨i, hi, rfl⟩ | hx
      · refine m_isPlace1 hn hi hb0 ?_
        rcases ix_cases y (n := D 0) (by omega) with ⟨j, hj, rfl⟩ | hy
        · refine m_isPlace1 hn hj hb0 ?_
          refine And.intro (fun q => ?_) (fun _ => ⟨⟨_, rfl, rfl⟩, hR⟩)
          rcases h with h | h | h
          · exact absurd rfl (h i hi)
          · exact absurd rfl (h j hj)
          · exact absurd h q
        · exact m_isPlace0 hn hb0 hy ⟨⟨_, rfl, rfl⟩, hR⟩
      · exact m_isPlace0 hn hb0 hx ⟨⟨_, rfl, rfl⟩, hR⟩
    refine ab_Call_nr (caX9_minutes rfl (atX9_minutes ?_))
    rcases ix_cases x (n := D 0) (by omega) with ⟨i, hi, rfl⟩ | hx
    · refine c_hasPlace1 hl hi hb0 ?_
      rcases ix_cases y (n := D 0) (by omega) with ⟨j, hj, rfl⟩ | hy
      · refine c_hasPlace1 hl hj hb0 ?_
        refine And.intro (fun q => ?_) (fun _ => mb)
        rcases h with h | h | h
        · exact absurd rfl (h i hi)
        · exact absurd rfl (h j hj)
        · exact absurd h q
      · exact c_hasPlace0 hl hb0 hy mb
    · exact c_hasPlace0 hl hb0 hx mb
  rcases ix_cases x (n := D 0) (by omega) with ⟨i, hi, rfl⟩ | hx
  · rcases ix_cases y (n := D 0) (by omega) with ⟨j, hj, rfl⟩ | hy
    · by_cases e : i = j
      · exact bad (Or.inr (Or.inr (by rw [e])))
      · refine ab_Call_nr (caX9_minutes rfl (atX9_minutes ?_))
        refine c_hasPlace1 hl hi hb0 (c_hasPlace1 hl hj hb0 ?_)
        refine And.intro (fun q => ?_) (fun q => absurd (neq_use q) e)
        have hp9 := pm_le hw.1 i j
        by_cases hp : 0 < pm D i j
        · refine c_hasPath1 hl hw.1 (by omega) (by omega) hp ?_
          refine ix_i i rfl (show i < 7 by omega) (ix_i j rfl (show j < 7 by omega) ?_)
          refine ab_Call_nr (caX10_minutes rfl (atX10_minutes ?_))
          refine m_isPlace1 hn hi hb0 (m_isPlace1 hn hj hb0 ?_)
          refine And.intro (fun q => ?_) (fun q => absurd (neq_use q) e)
          refine m_pathOf hn hw.1 (by omega) (by omega) (fun k hk hkp _ => ?_) (fun q => absurd q (by omega))
          have hw2' := hw.1.2.2.1
          refine And.intro (fun _ => ?_) (fun q => absurd q (nI_pos (by omega)))
          refine m_takesOf hn hw.1 (by omega) (by omega) hp ?_
          refine ⟨⟨_, rfl, ?_⟩, hR⟩
          exact congrArg (fun v => some (vi v)) (hl.2.2.2.2 i (by omega) j (by omega)).symm
        · refine c_hasPath0 hl (by omega) (by omega) (by omega) ?_
          refine ab_Call_nr (caX10_minutes rfl (atX10_minutes ?_))
          refine m_isPlace1 hn hi hb0 (m_isPlace1 hn hj hb0 ?_)
          refine And.intro (fun q => ?_) (fun q => absurd (neq_use q) e)
          refine m_pathOf hn hw.1 (by omega) (by omega) (fun k hk hkp q => absurd q hp) (fun _ => ?_)
          exact And.intro (fun q => absurd q (by decide)) (fun _ => ⟨⟨_, rfl, rfl⟩, hR⟩)
    · exact bad (Or.inr (Or.inl hy))
  · exact bad (Or.inl hx)
/-- a country that differs in its head, its wind, in fewer false ends -/
theorem wf_sub {D E : Nat → Nat} (hw : wf D) (hE : eqL D E) (h3 : E 3 ≤ 9) (h4 : E 4 = D 4) (ht : ∀ k, k < D 4 → E (46 + k) = D (46 + k)) (h5 : E 5 ≤ D 5) (he : ∀ e, e < E 5 → E (53 + e) = D (53 + e) ∧ E (61 + e) = D (61 + e) ∧ E (69 + e) = D (69 + e)) (h77 : E 77 < 2 ^ E 0) : wf E := by
  obtain ⟨hL, w3, w4, w5, w6, w7, w8, w9, w10, w11, w12⟩ := hw
  have hp := pm_cong hE hL.2.2.1
  have e0 : E 0 = D 0 := hE 0 (by omega)
  refine ⟨wfL_cong hE hL, h3, ?_, by omega, fun q => by have := w6 (by omega); omega, ?_, ?_, ?_, ?_, ?_, h77⟩
  · rw [h4, e0]
    rcases w4 with w | ⟨a1, a2, a3, a4⟩
    · exact Or.inl w
    · refine Or.inr ⟨a1, a2, by rw [← a3]; exact ht 0 (by omega), ?_⟩
      have := ht (D 4 - 1) (by omega)
      rw [show 46 + (D 4 - 1) = 45 + D 4 by omega] at this
      rw [this]
      exact a4
  · intro k hk
    rw [h4] at hk
    rw [ht k hk, e0]
    exact w7 k hk
  · intro j k hj hk
    rw [h4] at hk
    rw [ht k hk, ht j (by omega)]
    exact w8 j k hj hk
  · intro k hk
    rw [h4] at hk
    rw [ht k (by omega), show E (46 + k + 1) = D (46 + k + 1) from ht (k + 1) hk, hp]
    exact w9 k hk
  · intro e hh
    obtain ⟨k, hk⟩ := w10 e (by omega)
    obtain ⟨a1, a2, a3⟩ := he e hh
    refine ⟨k, ?_⟩
    rw [h4, a1, a2, a3, e0, ht k (by omega), show E (46 + k + 1) = D (46 + k + 1) from ht (k + 1) hk.1, hp]
    exact hk
  · intro e f hef hf
    rw [(he e (by omega)).1, (he e (by omega)).2.1, (he f hf).1, (he f hf).2.1]
    exact w11 e f hef (by omega)
theorem wfC_head {D : Nat → Nat} {v : Nat} (hw : wf D) (hv : v ≤ 9) : wf (upN D 3 v) :=
  wf_sub hw (fun j hj => upN_ne (by omega)) (by rw [upN_eq]; exact hv) rfl (fun k hk => upN_ne (by omega)) (Nat.le_refl _) (fun e he => ⟨upN_ne (by omega), upN_ne (by omega), upN_ne (by omega)⟩) hw.2.2.2.2.2.2.2.2.2.2
theorem nwM_up {k v : Nat} (hn : nwM M 54 0 D) : nwM (ab_sI M 54 0 k (nI v)) 54 0 (upN D k v) := by
  intro j hj
  rw [Nat.zero_add]
  by_cases e : j = k
  · subst e
    rw [sI_eq, upN_eq]
  · rw [sI_k e, upN_ne e]
    exact nw hn hj
theorem op_head {x : Int32} (hR : Rel M) : OpI (d + 2) 116 206 [vi x] M := by
  obtain ⟨D, hw, hw2, hw3, hl, hc, hn, hk⟩ := Rel_D hR
  have hb0 := hw.1.1
  rcases ix_cases x (n := 10) (by omega) with ⟨v, hv, rfl⟩ | hno
  · refine ab_Call_nr (caX9_head rfl (atX9_head ?_))
    refine And.intro (fun q => absurd q (nI_pos (by omega))) (fun _ => And.intro (fun _ => ?_) (fun q => absurd (nlt_use q) (by omega)))
    by_cases h0 : D 0 = 0
    · refine c_isBare1 hl h0 ?_
      refine ab_Call_nr (caX10_head rfl (atX10_head ?_))
      refine c_inP (n := 10) rfl rfl hv (by omega) ?_
      exact And.intro (fun q => absurd (by rw [nw hn (by omega), h0]) q) (fun _ => ⟨⟨_, rfl, rfl⟩, hR⟩)
    · refine c_isBare0 hl (by omega) hb0 ?_
      refine ab_Call_nr (caX10_head rfl (atX10_head ?_))
      refine c_inP (n := 10) rfl rfl hv (by omega) ?_
      refine And.intro (fun _ => ?_) (fun q => absurd ((nw hn (by omega)).symm.trans q) (nI_ne0 (by omega) (by omega)))
      have e : M.1 14 0 0 = M.1 54 0 3 := hc.1.trans (nw hn (by omega)).symm
      refine ⟨⟨_, rfl, congrArg (fun v => some (vi v)) e.symm⟩, ?_⟩
      have hE : eqL D (upN D 3 v) := fun j hj => upN_ne (by omega)
      refine Rel_new (E := upN D 3 v) hR (rw_fr hR.1 rfl rfl rfl rfl) (tx_fr hR.2.1 rfl rfl rfl rfl) hR.2.2.1 rfl (wfC_head hw (by omega)) (by rw [upN_ne (by omega)]; exact hw2) (fun q => absurd (show D 0 = 0 from q) h0) (ldC_fr rfl rfl (fun _ _ => rfl) (ldC_cong hE hw.1 hl)) ?_ (nwM_up (M := ab_sI M 14 0 0 (nI v)) (fun k hk => hn k hk)) ?_
      · refine ⟨rfl, hc.2.1, hc.2.2.1, hc.2.2.2.1, fun k hk => ?_, fun e he => ?_⟩
        · rw [upN_ne (show 46 + k ≠ 3 by omega)]
          exact hc.2.2.2.2.1 k hk
        · rw [upN_ne (show 53 + e ≠ 3 by omega), upN_ne (show 61 + e ≠ 3 by omega), upN_ne (show 69 + e ≠ 3 by omega)]
          exact hc.2.2.2.2.2 e he
      · intro k hk3
        obtain ⟨a, b⟩ := kp_cong hE hk k hk3
        refine ⟨a, b.imp (fun q => q) (fun q => ?_)⟩
        obtain ⟨q1, q2, F, q3, q4, q5, q6⟩ := q
        exact ⟨q1, q2, F, q3, q4, crC_fr ⟨sI_i (M := M) (by omega), rfl, rfl, rfl, rfl⟩ q5, q6⟩
  · have mb : ab_Call (d + 2) 206 [vr 49 0, vi x] M (fun r2 M2 => (∃ v, some (vi (-1)) = some (vi v) ∧ r2 = some (vi v)) ∧ Rel M2) := by
      refine ab_Call_nr (caX10_head rfl (atX10_head ?_))
      exact c_in0 (n := 10) rfl rfl (by omega) hno ⟨⟨_, rfl, rfl⟩, hR⟩
    refine ab_Call_nr (caX9_head rfl (atX9_head ?_))
    refine And.intro (fun _ => mb) (fun q => And.intro (fun q2 => ?_) (fun _ => mb))
    rcases ix_no (by omega) hno with w | w
    · exact absurd q (i_not_le w)
    · exact absurd q2 (fun q2 => i_lt_le (show nI 9 < nI 10 from nI_lt (by omega) (by omega)) (i_le_trans w q2))
theorem op_off {x : Int32} (hR : Rel M) : OpI (d + 2) 119 213 [vi x] M := by
  obtain ⟨D, hw, hw2, hw3, hl, hc, hn, hk⟩ := Rel_D hR
  have hb5 := hw.2.2.2.1
  rcases ix_cases x (n := D 5 + 1) (by omega) with ⟨v, hv, rfl⟩ | hno
  · refine ab_Call_nr (caX9_off rfl (atX9_off ?_))
    refine And.intro (fun q => absurd q (nI_pos (by omega))) (fun _ => And.intro (fun _ => ?_) (fun q => absurd q (by rw [hc.2.2.1]; exact nI_nlt (by omega) (by omega))))
    refine ab_Call_nr (caX10_off rfl (atX10_off ?_))
    refine c_in1 (hi := D 5) rfl (congrArg Int32.toInt64 (nw hn (by omega))) (Nat.zero_le _) (by omega) (by omega) ?_
    have e : M.1 14 0 2 = M.1 54 0 5 := hc.2.2.1.trans (nw hn (by omega)).symm
    refine ⟨⟨_, rfl, congrArg (fun v' => some (vi (v' - nI v))) e.symm⟩, ?_⟩
    have hE : eqL D (upN D 5 v) := fun j hj => upN_ne (by omega)
    refine Rel_new (E := upN D 5 v) hR (rw_fr hR.1 rfl rfl rfl rfl) (tx_fr hR.2.1 rfl rfl rfl rfl) hR.2.2.1 rfl (wf_sub hw hE hw.2.1 rfl (fun k hk => upN_ne (by omega)) (by rw [upN_eq]; omega) (fun e he => by rw [upN_eq] at he; exact ⟨upN_ne (by omega), upN_ne (by omega), upN_ne (by omega)⟩) hw.2.2.2.2.2.2.2.2.2.2) (by rw [upN_ne (by omega)]; exact hw2) (fun q k hk => ?_) (ldC_fr rfl rfl (fun _ _ => rfl) (ldC_cong hE hw.1 hl)) ?_ (nwM_up (M := ab_sI M 14 0 2 (nI v)) (fun k hk => hn k hk)) ?_
    · have z := hw3 q
      have z5 := z 5 (by omega)
      by_cases e : k = 5
      · subst e
        rw [upN_eq]
        omega
      · rw [upN_ne e]
        exact z k hk
    · refine ⟨hc.1, hc.2.1, ?_, hc.2.2.2.1, fun k hk => ?_, fun e he => ?_⟩
      · rw [upN_eq]
        rfl
      · rw [upN_ne (show 46 + k ≠ 5 by omega)]
        exact hc.2.2.2.2.1 k hk
      · rw [upN_eq] at he
        rw [upN_ne (show 53 + e ≠ 5 by omega), upN_ne (show 61 + e ≠ 5 by omega), upN_ne (show 69 + e ≠ 5 by omega)]
        exact hc.2.2.2.2.2 e (by omega)
    · intro k hk3
      obtain ⟨a, b⟩ := kp_cong hE hk k hk3
      refine ⟨a, b.imp (fun q => q) (fun q => ?_)⟩
      obtain ⟨q1, q2, F, q3, q4, q5, q6⟩ := q
      exact ⟨q1, q2, F, q3, q4, crC_fr ⟨sI_i (M := M) (by omega), rfl, rfl, rfl, rfl⟩ q5, q6⟩
  · have mb : ab_Call (d + 2) 213 [vr 49 0, vi x] M (fun r2 M2 => (∃ v, some (vi (-1)) = some (vi v) ∧ r2 = some (vi v)) ∧ Rel M2) := by
      refine ab_Call_nr (caX10_off rfl (atX10_off ?_))
      exact c_in0 (n := D 5 + 1) rfl (by rw [nw hn (by omega), pk_sub (by omega), Nat.add_sub_cancel]) (by omega) hno ⟨⟨_, rfl, rfl⟩, hR⟩
    refine ab_Call_nr (caX9_off rfl (atX9_off ?_))
    refine And.intro (fun _ => mb) (fun q => And.intro (fun q2 => ?_) (fun _ => mb))
    rcases ix_no (by omega) hno with w | w
    · exact absurd q (i_not_le w)
    · rw [hc.2.2.1] at q2
      exact absurd q2 (fun q2 => i_lt_le (nI_lt (show D 5 < D 5 + 1 by omega) (by omega)) (i_le_trans w q2))
theorem op_wind {x : Int32} (hR : Rel M) : OpI (d + 2) 120 214 [vi x] M := by
  obtain ⟨D, hw, hw2, hw3, hl, hc, hn, hk⟩ := Rel_D hR
  have hb0 := hw.1.1
  have hp : 2 ^ D 0 ≤ 128 := Nat.pow_le_pow_right (by omega) hb0
  have hp0 : 0 < 2 ^ D 0 := Nat.two_pow_pos _
  rcases ix_cases x (n := 2 ^ D 0) (by omega) with ⟨v, hv, rfl⟩ | hno
  · refine ab_Call_nr (caX9_wind rfl (atX9_wind ?_))
    have e1 : ab_shr (nI v) (M.1 9 0 0) = nI 0 := by rw [hl.1, nI_shr (by omega) (by omega), Nat.div_eq_of_lt hv]
    refine And.intro (fun q => absurd q (nI_pos (by omega))) (fun _ => And.intro (fun _ => ?_) (fun q => absurd e1 q))
    refine ab_Call_nr (caX10_wind rfl (atX10_wind ?_))
    refine c_inP (n := 2 ^ D 0) rfl (by show (ab_shl (nI 1) (M.1 54 0 0) - nI 1).toInt64 = _; rw [nw hn (by omega), nI_shl1 (by omega)]) hv (by omega) ?_
    have e : M.1 14 0 3 = M.1 54 0 77 := hc.2.2.2.1.trans (nw hn (by omega)).symm
    refine ⟨⟨_, rfl, congrArg (fun v' => some (vi v')) e.symm⟩, ?_⟩
    have hE : eqL D (upN D 77 v) := fun j hj => upN_ne (by omega)
    refine Rel_new (E := upN D 77 v) hR (rw_fr hR.1 rfl rfl rfl rfl) (tx_fr hR.2.1 rfl rfl rfl rfl) hR.2.2.1 rfl (wf_sub hw hE hw.2.1 rfl (fun k hk => upN_ne (by have := (bnd_of hw).2.1; omega)) (Nat.le_refl _) (fun e he => by have : e < 8 := Nat.lt_of_lt_of_le he hw.2.2.2.1; exact ⟨upN_ne (by omega), upN_ne (by omega), upN_ne (by omega)⟩) (by rw [upN_eq]; exact hv)) (by rw [upN_ne (by omega)]; exact hw2) (fun q k hk => ?_) (ldC_fr rfl rfl (fun _ _ => rfl) (ldC_cong hE hw.1 hl)) ?_ (nwM_up (M := ab_sI M 14 0 3 (nI v)) (fun k hk => hn k hk)) ?_
    · have q : D 0 = 0 := q
      have z := hw3 q
      rw [q] at hv
      by_cases e : k = 77
      · subst e
        rw [upN_eq]
        omega
      · rw [upN_ne e]
        exact z k hk
    · refine ⟨hc.1, hc.2.1, hc.2.2.1, ?_, fun k hk => ?_, fun e he => ?_⟩
      · rw [upN_eq]
        rfl
      · have := (bnd_of hw).2.1
        have hk : k < D 4 := hk
        rw [upN_ne (show 46 + k ≠ 77 by omega)]
        exact hc.2.2.2.2.1 k hk
      · have he : e < D 5 := he
        have := hw.2.2.2.1
        rw [upN_ne (show 53 + e ≠ 77 by omega), upN_ne (show 61 + e ≠ 77 by omega), upN_ne (show 69 + e ≠ 77 by omega)]
        exact hc.2.2.2.2.2 e he
    · intro k hk3
      obtain ⟨a, b⟩ := kp_cong hE hk k hk3
      refine ⟨a, b.imp (fun q => q) (fun q => ?_)⟩
      obtain ⟨q1, q2, F, q3, q4, q5, q6⟩ := q
      exact ⟨q1, q2, F, q3, q4, crC_fr ⟨sI_i (M := M) (by omega), rfl, rfl, rfl, rfl⟩ q5, q6⟩
  · have mb : ab_Call (d + 2) 214 [vr 49 0, vi x] M (fun r2 M2 => (∃ v, some (vi (-1)) = some (vi v) ∧ r2 = some (vi v)) ∧ Rel M2) := by
      refine ab_Call_nr (caX10_wind rfl (atX10_wind ?_))
      exact c_in0 (n := 2 ^ D 0) rfl (by rw [nw hn (by omega), nI_shl1 (by omega)]) (by omega) hno ⟨⟨_, rfl, rfl⟩, hR⟩
    refine ab_Call_nr (caX9_wind rfl (atX9_wind ?_))
    refine And.intro (fun _ => mb) (fun q => And.intro (fun q2 => ?_) (fun _ => mb))
    obtain ⟨s, hs, rfl⟩ := i_of_ge q
    rw [hl.1, nI_shr hs (by omega)] at q2
    have hlt : s / 2 ^ D 0 ≤ s := Nat.div_le_self _ _
    have q2 : s / 2 ^ D 0 = 0 := neq_use q2
    exact absurd rfl (hno s (Nat.lt_of_div_eq_zero hp0 q2))
end Ops4
