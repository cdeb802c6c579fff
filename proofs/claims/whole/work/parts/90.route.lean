/-! ===== route: the reference, and the step ===== -/
def frT (M M' : ab_M) : Prop := (∀ g i k, ¬ scr g i k → ¬ (g = 54 ∧ i = 0 ∧ k < 78) → M'.1 g i k = M.1 g i k) ∧ (∀ g i k, g ≠ 46 → g ≠ 67 → M'.2.1 g i k = M.2.1 g i k) ∧ ∀ g i k, g ≠ 13 → g ≠ 72 → M'.2.2 g i k = M.2.2 g i k
theorem frT_A {M M' : ab_M} (h : frA M M') : frT M M' := ⟨fun g i k q _ => h.1 g i k q, h.2.1, h.2.2⟩
theorem frT_trans {M M' M'' : ab_M} (h : frT M M') (h2 : frT M' M'') : frT M M'' := ⟨fun g i k q w => (h2.1 g i k q w).trans (h.1 g i k q w), fun g i k q q2 => (h2.2.1 g i k q q2).trans (h.2.1 g i k q q2), fun g i k q q2 => (h2.2.2 g i k q q2).trans (h.2.2 g i k q q2)⟩
theorem frT_sI {M M' : ab_M} {k : Nat} {v : Int32} (h : frT M M') (hk : k < 78) : frT M (ab_sI M' 54 0 k v) :=
  ⟨fun a b c q1 q2 => by rw [sI_ne (fun w => q2 (by omega))]; exact h.1 a b c q1 q2, h.2.1, h.2.2⟩
theorem frT_back {M M' : ab_M} (h : frT M M') (h54 : ∀ k, k < 78 → M'.1 54 0 k = M.1 54 0 k) : frA M M' :=
  ⟨fun g i k q => by
    by_cases w : g = 54 ∧ i = 0 ∧ k < 78
    · obtain ⟨rfl, rfl, z⟩ := w
      exact h54 k z
    · exact h.1 g i k q w, h.2.1, h.2.2⟩
/-- while a trail is written -/
def trK (E w : Nat → Nat) (N k : Nat) : Nat → Nat := fun j => if j = 4 then N else if j = 5 then 0 else if 46 ≤ j ∧ j < 46 + k then w (j - 46) else E j
theorem trK_N {E w : Nat → Nat} {N : Nat} : trK E w N N = trD E w N := rfl
theorem trK_s {E w : Nat → Nat} {N k j : Nat} : trK E w N (k + 1) j = if j = 46 + k then w k else trK E w N k j := by
  unfold trK
  by_cases q : j = 46 + k
  · subst q
    rw [if_pos rfl, if_neg (by omega), if_neg (by omega), if_pos ⟨by omega, by omega⟩, Nat.add_sub_cancel_left]
  · rw [if_neg q]
    by_cases q4 : j = 4
    · rw [if_pos q4, if_pos q4]
    · rw [if_neg q4, if_neg q4]
      by_cases q5 : j = 5
      · rw [if_pos q5, if_pos q5]
      · rw [if_neg q5, if_neg q5]
        by_cases q6 : 46 ≤ j ∧ j < 46 + k
        · rw [if_pos q6, if_pos ⟨q6.1, by omega⟩]
        · rw [if_neg q6, if_neg (by omega)]
/-- a country that differs in its trail -/
def alk (D E : Nat → Nat) : Prop := eqL D E ∧ E 3 = D 3 ∧ E 77 = D 77 ∧ wf E
theorem alk_tr {D E : Nat → Nat} {x : Nat × (Nat → Nat)} (h : alk D E) (hw : wf D) (ht : trl D x.1 x.2) : alk D (trD E x.2 x.1) := by
  obtain ⟨h1, h3, h77, hwE⟩ := h
  have hN : x.1 ≤ 7 := by have := ht.2.1; have := hw.1.1; omega
  refine ⟨fun j hj => ?_, ?_, ?_, wf_tr hwE (trl_isTr hwE.1.1 (trl_cong h1 hw.1.2.2.1 ht))⟩
  · rw [trD_o (by omega) (by omega) (by omega)]; exact h1 j hj
  · rw [trD_o (by omega) (by omega) (by omega)]; exact h3
  · rw [trD_o (by omega) (by omega) (by omega)]; exact h77
/-- the most so far -/
def mstI (D : Nat → Nat) : Option (Nat × (Nat → Nat)) → Int32
  | none => Int32.ofInt (-1000000)
  | some b => vRi D b
section RouteM
variable {d : Nat} {M : ab_M} {K : ab_K} {D : Nat → Nat}
theorem vRi_toInt (hw : wf D) (hH : 0 < D 1) {x : Nat × (Nat → Nat)} (ht : trl D x.1 x.2) : (vRi D x).toInt = vR D x ∧ -1000 < vR D x := by
  have a := vR_lim hw hH ht
  unfold vRi vR
  rw [pk_sub_toInt (by omega) (by omega)]
  omega
theorem m_route {r : Nat} (hr : r < 6) (hn : nwM M 54 0 D) (hw : wf D) (h2 : 2 ≤ D 0) {L : List (Nat × (Nat → Nat))} (hS : Sq D L 1 (fun _ => 0) 0) (h1 : ∀ M' x, 0 < D 1 → bsf (vR D) L none = some x → x.1 ≤ 7 → frR r M M' → (∀ g i k, ¬ scr g i k → g ≠ 50 → g ≠ 51 → M'.1 g i k = M.1 g i k) → M'.1 50 0 r = nI x.1 → (∀ k, k < x.1 → M'.1 51 0 (40 * r + k) = nI (x.2 k)) → K (some (vi (nI (x.1 - 1)))) (ab_sI M' 49 0 7 (vRi D x))) (h0 : ∀ M', frA M M' → (D 1 = 0 ∨ bsf (vR D) L none = none) → K (some (vi (-9))) M') : ab_Call (d + 6) 245 [vr 49 0, vi (nI r)] M K := by
  refine ab_Call_nr (caX10_route rfl (atX10_route ?_))
  have w0 := hw.1.1
  have w1 := hw.1.2.1
  have h12 := hw.1.2.2.1
  refine m_isRow1 hr ?_
  refine And.intro (fun _ => ?_) (fun q => absurd q (by rw [nw hn (by omega)]; exact fun z => by have := neq_use (b := 0) z; omega))
  refine m_copies_54_65 (a := 0) (b := 0) rfl rfl (by omega) (by omega) ?_
  generalize hM1 : sR M 65 0 (cpf (M.1 54 0) (M.1 65 0) 0 0 78) = M1
  have f1 : frA M M1 := by
    rw [← hM1]
    refine ⟨fun g i k q => ?_, fun _ _ _ _ _ => rfl, fun _ _ _ _ _ => rfl⟩
    rw [sR_ne (fun w => q (by unfold scr; omega))]
  have a1 : nwM M1 65 0 D := by
    intro k hk
    rw [← hM1, sR_eq]
    unfold cpf
    rw [if_pos ⟨by omega, by omega⟩, Nat.sub_zero]
    have := hn k hk
    rw [Nat.zero_add] at this ⊢
    rw [Nat.zero_add]
    exact this
  have fin : ∀ (b : Option (Nat × (Nat → Nat))) (M3 : ab_M), (D 1 = 0 ∧ b = none ∨ 0 < D 1 ∧ b = bsf (vR D) L none) → (∀ y, b = some y → trl D y.1 y.2) → frT M M3 → nwM M3 65 0 D → kpM M3 b → ∀ M4, M4 = sR M3 54 0 (cpf (M3.1 65 0) (M3.1 54 0) 0 0 78) → ((mstI D b = Int32.ofInt (-1000000) → K (some (vi (-9))) M4) ∧ (¬ mstI D b = Int32.ofInt (-1000000) → ∀ M5, (∀ x, b = some x → frR r M4 M5 → M5.1 50 0 r = nI x.1 → (∀ k, k < x.1 → M5.1 51 0 (40 * r + k) = nI (x.2 k)) → (∀ g i, g ≠ 50 → g ≠ 51 → M5.1 g i = M4.1 g i) → K (some (vi (nI (x.1 - 1)))) (ab_sI M5 49 0 7 (mstI D b))))) := by
    intro b M3 hb hbt f3 a3 hk M4 hM4
    have f4 : frA M M4 := by
      refine frT_back ?_ (fun k hk => ?_)
      · rw [hM4]
        refine frT_trans f3 ⟨fun g i k q w => ?_, fun _ _ _ _ _ => rfl, fun _ _ _ _ _ => rfl⟩
        by_cases z : g = 54 ∧ i = 0
        · obtain ⟨rfl, rfl⟩ := z
          rw [sR_eq]
          unfold cpf
          rw [if_neg (by omega)]
        · rw [sR_ne z]
      · rw [hM4, sR_eq]
        unfold cpf
        rw [if_pos ⟨by omega, by omega⟩, Nat.sub_zero, nw hn hk]
        exact a3 k hk
    refine ⟨fun e => h0 M4 f4 ?_, fun e M5 x hx f5 s50 s51 s6 => ?_⟩
    · rcases hb with hb | ⟨hH, hb⟩
      · exact Or.inl hb.1
      · right
        cases b with
        | none => exact hb.symm
        | some b =>
          have := vRi_toInt hw hH (hbt b rfl)
          have e : vRi D b = Int32.ofInt (-1000000) := e
          rw [e, show (Int32.ofInt (-1000000)).toInt = -1000000 by decide] at this
          omega
    · subst hx
      rcases hb with hb | ⟨hH, hb⟩
      · exact absurd hb.2 (by simp)
      · refine h1 M5 x hH hb.symm hk.2.1 (frR_trans (frR_A f4) f5) (fun g i k q q1 q2 => by rw [s6 g i q1 q2]; exact f4.1 g i k q) s50 s51
  have key : ∀ (L' : List (Nat × (Nat → Nat))) (b : Option (Nat × (Nat → Nat))) (n : Nat) (w : Nat → Nat) (t : Nat) (M3 : ab_M) (E : Nat → Nat), Sq D L' n w t → vld D n w → (D 1 = 0 ∧ b = none ∨ 0 < D 1 ∧ bsf (vR D) L' b = bsf (vR D) L none) → (∀ y, b = some y → trl D y.1 y.2) → frT M M3 → nwM M3 65 0 D → nwM M3 54 0 E → alk D E → EO D M3 n w t → kpM M3 b → ab_At miX10_route (d + 6) 42 [some (vr 49 0), some (vi (nI r)), some (vi (mstI D b))] [] M3 (fun r M => K (r.map ab_nr) M) := by
    intro L'
    induction L' with
    | nil =>
      intro b n w t M3 E hS hv hb hbt f3 a3 n3 hA hE hk
      obtain ⟨k, k1, k2⟩ := hS
      have hA1 := hA.1
      have e1 : E 1 = D 1 := hA1 1 (by omega)
      have hb' : D 1 = 0 ∧ b = none ∨ 0 < D 1 ∧ b = bsf (vR D) L none := hb.imp (fun z => z) (fun z => ⟨z.1, z.2⟩)
      refine atX10_route ?_
      refine And.intro (fun _ => ?_) (fun _ => ?_)
      · refine m_copies_65_54 (M := M3) (a := 0) (b := 0) rfl rfl (by omega) (by omega) ?_
        obtain ⟨g1, g2⟩ := fin b M3 hb' hbt f3 a3 hk _ rfl
        refine And.intro (fun q => ?_) (fun q => g1 q)
        cases hb9 : b with
        | none => rw [hb9] at q; exact absurd rfl q
        | some x =>
          have hk9 := hk
          rw [hb9] at hk9 g2
          rw [hb9] at q
          have hk8 : kpM (sR M3 54 0 (cpf ((M3).1 65 0) ((M3).1 54 0) 0 0 78)) (some x) := kpM_fr hk9 (by rw [sR_g (by omega)]) (by rw [sR_g (by omega)])
          refine m_walkToRow hr hk8 (fun M5 f5 s50 s51 s6 => ?_)
          refine caX10_answer rfl (atX10_answer ?_)
          have := g2 q M5 x rfl f5 s50 s51 s6
          have e24 : M5.1 49 0 24 - nI 1 = nI (x.1 - 1) := by rw [s6 49 0 (by omega) (by omega), hk8.2.2.1, pk_sub (by have := hk8.1; omega)]
          rw [← e24] at this
          exact this
      · have hE' : EO E M3 n w t := hE.imp (fun z => z) (fun z => ⟨trl_cong hA1 h12 z.1, z.2.1, by rw [hA1 0 (by omega)]; exact z.2.2⟩)
        refine m_nextWalk n3 hA.2.2.2.1 (by rw [hA1 0 (by omega)]; exact h2) hE' (vld_cong hA1 h12 hv) (Run_cong hA1 h12 k2) (fun M' x a => absurd a (by simp)) (fun M' _ f' => ?_)
        have f4 := frT_trans f3 (frT_A (frO_A f'))
        have a4 : nwM M' 65 0 D := fun k hk => by rw [f'.2 65 0 _ (by omega) (by omega)]; exact a3 k hk
        have hk4 : kpM M' b := kpM_fr hk (f'.2 49 0 24 (by omega) (by omega)) (by funext k; exact f'.2 64 0 k (by omega) (by omega))
        refine m_copies_65_54 (M := M') (a := 0) (b := 0) rfl rfl (by omega) (by omega) ?_
        obtain ⟨g1, g2⟩ := fin b M' hb' hbt f4 a4 hk4 _ rfl
        refine And.intro (fun q => ?_) (fun q => g1 q)
        cases hb9 : b with
        | none => rw [hb9] at q; exact absurd rfl q
        | some x =>
          have hk9 := hk4
          rw [hb9] at hk9 g2
          rw [hb9] at q
          have hk8 : kpM (sR M' 54 0 (cpf ((M').1 65 0) ((M').1 54 0) 0 0 78)) (some x) := kpM_fr hk9 (by rw [sR_g (by omega)]) (by rw [sR_g (by omega)])
          refine m_walkToRow hr hk8 (fun M5 f5 s50 s51 s6 => ?_)
          refine caX10_answer rfl (atX10_answer ?_)
          have := g2 q M5 x rfl f5 s50 s51 s6
          have e24 : M5.1 49 0 24 - nI 1 = nI (x.1 - 1) := by rw [s6 49 0 (by omega) (by omega), hk8.2.2.1, pk_sub (by have := hk8.1; omega)]
          rw [← e24] at this
          exact this
    | cons x L' ih =>
      intro b n w t M3 E hS hv hb hbt f3 a3 n3 hA hE hk
      obtain ⟨⟨k, k1, k2⟩, htr, hS⟩ := hS
      have hA1 := hA.1
      have e1 : E 1 = D 1 := hA1 1 (by omega)
      refine atX10_route ?_
      rcases hb with hb | ⟨hH, hb⟩
      · obtain ⟨z1, z2⟩ := hb
        subst z2
        refine And.intro (fun _ => ?_) (fun q => absurd q (by rw [nw n3 (by omega), e1, z1]; decide))
        refine m_copies_65_54 (M := M3) (a := 0) (b := 0) rfl rfl (by omega) (by omega) ?_
        obtain ⟨g1, g2⟩ := fin none M3 (Or.inl ⟨z1, rfl⟩) hbt f3 a3 hk _ rfl
        refine And.intro (fun q => ?_) (fun q => g1 q)
        exact absurd rfl q
      · refine And.intro (fun q => absurd q (by rw [nw n3 (by omega), e1]; exact fun z => by have := nle_use (b := 0) z; omega)) (fun _ => ?_)
        have hE' : EO E M3 n w t := hE.imp (fun z => z) (fun z => ⟨trl_cong hA1 h12 z.1, z.2.1, by rw [hA1 0 (by omega)]; exact z.2.2⟩)
        refine m_nextWalk n3 hA.2.2.2.1 (by rw [hA1 0 (by omega)]; exact h2) hE' (vld_cong hA1 h12 hv) (Run_cong hA1 h12 k2) (fun M' y a f' hC => ?_) (fun M' a => absurd a (by simp))
        have a : x = y := by simpa using a
        subst a
        have hx0 := htr.1
        have hx7 : x.1 ≤ 7 := by have := htr.2.1; omega
        have f4 := frT_trans f3 (frT_A (frO_A f'))
        have a4 : nwM M' 65 0 D := fun k hk => by rw [f'.2 65 0 _ (by omega) (by omega)]; exact a3 k hk
        have hk4 : kpM M' b := kpM_fr hk (f'.2 49 0 24 (by omega) (by omega)) (by funext k; exact f'.2 64 0 k (by omega) (by omega))
        have n4 := frA_nw (frO_A f') (by omega) (by omega) n3
        have hA' := alk_tr hA hw htr
        have wr : ∀ k, k ≤ x.1 → ∀ M6, frT M M6 → nwM M6 65 0 D → nwM M6 54 0 (trK E x.2 x.1 k) → RF M6 x.1 x.2 → kpM M6 b → ab_At miX10_route (d + 6) 77 [some (vr 49 0), some (vi (nI r)), some (vi (mstI D b)), some (vi (nI k))] [] M6 (fun r M => K (r.map ab_nr) M) := by
          refine up_ind fun k hkx ihk M6 f6 a6 n6 hC6 hk6 => ?_
          refine atX10_route ?_
          refine And.intro (fun q => ?_) (fun q => ?_)
          · rw [hC6.2.1] at q
            have : k = x.1 := by have := nle_use q; omega
            subst this
            rw [trK_N] at n6
            refine m_runs n6 hA'.2.2.2 (fun M7 f7 hO => ?_)
            have n7 := frS_nw f7 (by omega) n6
            have x1 : trD E x.2 x.1 1 = D 1 := by rw [trD_o (by omega) (by omega) (by omega)]; exact e1
            have ve := vR_eq (w := x.2) hA1 hw.1 hA.2.1 hA.2.2.1 hx7
            have ah : ∀ {K' : ab_K}, K' (some (vi (vRi D x))) M7 → ab_Call (d + 5) 228 [vr 49 0] M7 K' := by
              intro K' hK'
              refine m_aheadNow n7 hA'.2.2.2 hO (by rw [trD_4]; omega) (by rw [x1]; exact hH) (fun f hf => ?_)
              have efm : cmv (trD E x.2 x.1) (trD E x.2 x.1 1) (kds (trD E x.2 x.1)) (trD E x.2 x.1 4 - 1) f = fmE (trD E x.2 x.1) := fst1_mn hf (by have := cmv_le hA'.2.2.2 (H := trD E x.2 x.1 1) (kd := kds (trD E x.2 x.1)) (i := f) (trD E x.2 x.1 4 - 1); have := (bnd_of hA'.2.2.2).2.1; omega)
              rw [efm, trD_4, ve.1, ve.2]
              exact hK'
            have f8 := frT_trans f6 (frT_A (frA_S f7 (by omega)))
            have a8 : nwM M7 65 0 D := fun k hk => by rw [f7.2 65 0 (by omega)]; exact a6 k hk
            have hC8 : RF M7 x.1 x.2 := by
              unfold RF at hC6 ⊢
              rw [f7.2 63 0 (by omega), f7.2 49 0 (by omega)]
              exact hC6
            have hk8 : kpM M7 b := kpM_fr hk6 (by rw [f7.2 49 0 (by omega)]) (f7.2 64 0 (by omega))
            have ti := vRi_toInt hw hH htr
            refine ah ?_
            refine And.intro (fun q => ?_) (fun q => ?_)
            · refine ih b (x.1 - 1) x.2 (D 0) M7 _ hS (trl_vld htr) (Or.inr ⟨hH, ?_⟩) hbt f8 a8 n7 hA' (EO_f htr hC8) hk8
              cases b with
              | none =>
                have q : vRi D x ≤ Int32.ofInt (-1000000) := q
                rw [Int32.le_iff_toInt_le, ti.1, show (Int32.ofInt (-1000000)).toInt = -1000000 by decide] at q
                omega
              | some b =>
                rw [← hb, bsf, if_neg]
                intro z
                exact absurd q (i_not_le ((vR_lt hw hH (hbt b rfl) htr).mpr z))
            · refine ah ?_
              refine m_keepWalk hC8 (by omega) hx7 (fun M9 f9 g9 hk9 => ?_)
              refine ih (some x) (x.1 - 1) x.2 (D 0) M9 (trD E x.2 x.1) hS (trl_vld htr) (Or.inr ⟨hH, ?_⟩) (fun y hy => (Option.some.inj hy) ▸ htr) (frT_trans f8 (frT_A ⟨fun g i k q => g9 g i k (fun z => q (by unfold scr; omega)) (fun z => q (by unfold scr; omega)), fun g i k _ _ => by rw [f9], fun g i k _ _ => by rw [f9]⟩)) (fun k hk => by rw [g9 65 0 _ (by omega) (by omega)]; exact a8 k hk) (fun k hk => by rw [g9 54 0 _ (by omega) (by omega)]; exact n7 k hk) hA' (EO_f htr ⟨fun k hk => by rw [g9 63 0 k (by omega) (by omega)]; exact hC8.1 k hk, by rw [g9 49 0 20 (by omega) (by omega)]; exact hC8.2.1, by rw [g9 49 0 21 (by omega) (by omega)]; exact hC8.2.2⟩) hk9
              cases b with
              | none => exact hb
              | some b =>
                rw [← hb, bsf, if_pos]
                exact (vR_lt hw hH (hbt b rfl) htr).mp q
          · rw [hC6.2.1] at q
            have hkn := nlt_use q
            refine ix_i k rfl (show k < 8 by omega) ?_
            refine ix_i (46 + k) (by simp only [nI_add]) (show _ < 78 by omega) ?_
            have e63 : M6.1 63 0 k = nI (x.2 k) := hC6.1 k hkn
            have := ihk hkn (ab_sI M6 54 0 (46 + k) (M6.1 63 0 k)) (frT_sI f6 (by omega)) a6 (fun j hj => by
              rw [trK_s, Nat.zero_add]
              by_cases z : j = 46 + k
              · subst z; rw [sI_eq, if_pos rfl]; exact e63
              · rw [sI_k z, if_neg z]; exact nw n6 hj) hC6 hk6
            rw [← nI_1 k] at this
            exact this
        refine wr 0 (Nat.zero_le _) (ab_sI (ab_sI M' 54 0 5 (nI 0)) 54 0 4 (M'.1 49 0 20)) (frT_sI (frT_sI f4 (by omega)) (by omega)) a4 (fun j hj => ?_) hC hk4
        unfold trK
        rw [Nat.zero_add]
        by_cases z4 : j = 4
        · subst z4; rw [sI_eq, if_pos rfl]; exact hC.2.1
        · rw [sI_k z4, if_neg z4]
          by_cases z5 : j = 5
          · subst z5; rw [sI_eq, if_pos rfl]
          · rw [sI_k z5, if_neg z5, if_neg (by omega)]
            exact nw n4 hj
  refine m_firstWalk (fun M2 f2 hE => ?_)
  refine key L none 1 (fun _ => 0) 0 M2 D hS ⟨rfl, fun k _ => by show 0 + 1 < _; omega, fun i j a b => by omega, fun k hk => by omega⟩ ?_ (fun y hy => absurd hy (by simp)) (frT_A (frA_trans f1 (frO_A f2))) (fun k hk => by rw [f2.2 65 0 _ (by omega) (by omega)]; exact a1 k hk) (frA_nw (frA_trans f1 (frO_A f2)) (by omega) (by omega) hn) ⟨eqL_rf D, rfl, rfl, hw⟩ (hE D) trivial
  rcases Nat.eq_zero_or_pos (D 1) with z | z
  · exact Or.inl ⟨z, rfl⟩
  · exact Or.inr ⟨z, rfl⟩
end RouteM
