/-! ===== a row that is filled anew ===== -/
def rcell (r g i k : Nat) : Prop := (g = 4 ∧ i = 0 ∧ k = r) ∨ (g = 3 ∧ i = r) ∨ (g = 50 ∧ i = 0 ∧ k = r) ∨ (g = 51 ∧ i = 0 ∧ 40 * r ≤ k ∧ k < 40 * r + 40) ∨ (g = 0 ∧ i = 0 ∧ k = 14) ∨ (g = 49 ∧ i = 0 ∧ k = 7)
def frR (r : Nat) (M M' : ab_M) : Prop := (∀ g i k, ¬ scr g i k → ¬ rcell r g i k → M'.1 g i k = M.1 g i k) ∧ (∀ g i k, g ≠ 46 → g ≠ 67 → M'.2.1 g i k = M.2.1 g i k) ∧ ∀ g i k, g ≠ 13 → g ≠ 72 → M'.2.2 g i k = M.2.2 g i k
theorem frR_A {r : Nat} {M M' : ab_M} (h : frA M M') : frR r M M' := ⟨fun g i k q _ => h.1 g i k q, h.2.1, h.2.2⟩
theorem frR_trans {r : Nat} {M M' M'' : ab_M} (h : frR r M M') (h2 : frR r M' M'') : frR r M M'' := ⟨fun g i k q q2 => (h2.1 g i k q q2).trans (h.1 g i k q q2), fun g i k q q2 => (h2.2.1 g i k q q2).trans (h.2.1 g i k q q2), fun g i k q q2 => (h2.2.2 g i k q q2).trans (h.2.2 g i k q q2)⟩
theorem frR_sI {r g i k : Nat} {v : Int32} {M M' : ab_M} (h : frR r M M') (hs : rcell r g i k) : frR r M (ab_sI M' g i k v) :=
  ⟨fun a b c q q2 => by rw [sI_ne (fun w => q2 (by rw [w.1, w.2.1, w.2.2]; exact hs))]; exact h.1 a b c q q2, h.2.1, h.2.2⟩
theorem frR_sC {r g a n : Nat} {M M' : ab_M} (h : frR r M M') : frR r M (ab_sC M' g 0 a 3 r 0 n) :=
  ⟨fun x y k q q2 => by
    show (if x = 3 ∧ y = r ∧ 0 ≤ k ∧ k < 0 + n then _ else M'.1 x y k) = _
    rw [if_neg (fun w => q2 (Or.inr (Or.inl ⟨w.1, w.2.1⟩)))]
    exact h.1 x y k q q2, h.2.1, h.2.2⟩
theorem frR_fl {r : Nat} {v : Int32} {M M' : ab_M} (h : frR r M M') : frR r M (sR M' 51 0 (flx (M'.1 51 0) (40 * r) 40 v)) :=
  ⟨fun x y k q q2 => by
    show (if x = 51 ∧ y = 0 then flx (M'.1 51 0) (40 * r) 40 v else M'.1 x y) k = _
    by_cases e : x = 51 ∧ y = 0
    · rw [if_pos e]
      show (if 40 * r ≤ k ∧ k < 40 * r + 40 then v else M'.1 51 0 k) = _
      rw [if_neg (fun w => q2 (Or.inr (Or.inr (Or.inr (Or.inl ⟨e.1, e.2, w.1, w.2⟩)))))]
      rw [e.1, e.2] at q q2 ⊢
      exact h.1 51 0 k q q2
    · rw [if_neg e]
      exact h.1 x y k q q2, h.2.1, h.2.2⟩
theorem frR_row {r g i : Nat} {M M' : ab_M} (h : frR r M M') (hg : ∀ k, ¬ scr g i k) (hg2 : ∀ k, ¬ rcell r g i k) : M'.1 g i = M.1 g i := by
  funext k
  exact h.1 g i k (hg k) (hg2 k)
theorem frR_nw {r : Nat} {M M' : ab_M} {D : Nat → Nat} (h : frR r M M') (hn : nwM M 54 0 D) : nwM M' 54 0 D :=
  nwM_fr (frR_row h (fun k => by unfold scr; omega) (fun k => by unfold rcell; omega)) hn
theorem frR_ld {r : Nat} {M M' : ab_M} {D : Nat → Nat} (h : frR r M M') (hl : ldC M 0 D) : ldC M' 0 D :=
  ldC_fr (frR_row h (fun k => by unfold scr; omega) (fun k => by unfold rcell; omega)) (frR_row h (fun k => by unfold scr; omega) (fun k => by unfold rcell; omega)) (fun x hx => frR_row h (fun k => by unfold scr; omega) (fun k => by unfold rcell; omega)) hl
theorem Rel_rows {r n : Nat} {M M' : ab_M} (hR : Rel M) (hr : r < 6) (hn : n ≤ 40) (h : frR r M M') (h4 : M'.1 4 0 r = nI n) (h50 : M'.1 50 0 r = nI n) (hrow : ∀ k, k < n → M'.1 3 r k = M'.1 51 0 (40 * r + k)) (ht : M'.1 0 0 14 = M'.1 49 0 7) : Rel M' := by
  have R : ∀ {g i : Nat}, (∀ k, ¬ scr g i k) → (∀ k, ¬ rcell r g i k) → M'.1 g i = M.1 g i := fun a b => frR_row h a b
  refine Rel_of hR ?_ ?_ ?_ (R (fun k => by unfold scr; omega) (fun k => by unfold rcell; omega)) ?_ ⟨h.2.2 49 0 27 (by omega) (by omega), h.2.2 49 0 28 (by omega) (by omega)⟩
  · refine rw_gen hR.1 (j := r) (fun q e => h.1 4 0 q (by unfold scr; omega) (by unfold rcell; omega)) (fun q e => h.1 50 0 q (by unfold scr; omega) (by unfold rcell; omega)) (fun q e => R (fun k => by unfold scr; omega) (fun k => by unfold rcell; omega)) (fun q k e hk => h.1 51 0 _ (by unfold scr; omega) (by unfold rcell; omega)) ⟨h4.trans h50.symm, Or.inr ⟨n, hn, h50, hrow⟩⟩
  · refine tx_fr hR.2.1 (R (fun k => by unfold scr; omega) (fun k => by unfold rcell; omega)) (by funext i; exact R (fun k => by unfold scr; omega) (fun k => by unfold rcell; omega)) (R (fun k => by unfold scr; omega) (fun k => by unfold rcell; omega)) (R (fun k => by unfold scr; omega) (fun k => by unfold rcell; omega))
  · obtain ⟨g1, g2, g3, g4, g5⟩ := hR.2.2.1
    refine ⟨ht, ?_, ?_, ?_, fun f f1 f5 => ?_⟩
    · rw [h.2.1 0 0 15 (by omega) (by omega), h.2.1 49 0 8 (by omega) (by omega)]; exact g2
    · rw [h.2.1 0 0 16 (by omega) (by omega), h.2.1 49 0 9 (by omega) (by omega)]; exact g3
    · rw [h.1 0 0 13 (by unfold scr; omega) (by unfold rcell; omega), h.1 49 0 10 (by unfold scr; omega) (by unfold rcell; omega)]; exact g4
    · rw [h.1 48 0 f (by unfold scr; omega) (by unfold rcell; omega), h.1 57 0 f (by unfold scr; omega) (by unfold rcell; omega)]; exact g5 f f1 f5
  · exact ⟨R (fun k => by unfold scr; omega) (fun k => by unfold rcell; omega), R (fun k => by unfold scr; omega) (fun k => by unfold rcell; omega), fun x hx => R (fun k => by unfold scr; omega) (fun k => by unfold rcell; omega), fun c hc => ⟨R (fun k => by unfold scr; omega) (fun k => by unfold rcell; omega), R (fun k => by unfold scr; omega) (fun k => by unfold rcell; omega), R (fun k => by unfold scr; omega) (fun k => by unfold rcell; omega), R (fun k => by unfold scr; omega) (fun k => by unfold rcell; omega), R (fun k => by unfold scr; omega) (fun k => by unfold rcell; omega)⟩, R (fun k => by unfold scr; omega) (fun k => by unfold rcell; omega), R (fun k => by unfold scr; omega) (fun k => by unfold rcell; omega), R (fun k => by unfold scr; omega) (fun k => by unfold rcell; omega), R (fun k => by unfold scr; omega) (fun k => by unfold rcell; omega)⟩
/-- a place's number in the order: how many come ahead -/
theorem ord_cnt {H : Nat} {c o : Nat → Nat} (h : ord H c o) : ∀ n, n ≤ H → sm (fun e => if exb (fun m => o m == e) n then 1 else 0) H = n
  | 0, _ => sm_zero (fun _ _ => rfl)
  | n + 1, hn => by
    rw [sm_ins (p := fun e => exb (fun m => o m == e) n) (i := o n) (h.1 n (by omega)) ?_ ?_, ord_cnt h n (by omega)]
    · cases q : exb (fun m => o m == o n) n
      · rfl
      · obtain ⟨m, m1, m2⟩ := exb_iff.mp q
        have := h.2.2 m n m1 (by omega)
        rw [bef_iff, show o m = o n by simpa using m2] at this
        omega
    · intro k hk
      rw [exb]
      congr 1
      show (o n == k) = (k == o n)
      rw [Bool.eq_iff_iff, beq_iff_eq, beq_iff_eq]
      exact eq_comm
theorem ord_rk {H : Nat} {c o : Nat → Nat} (h : ord H c o) {n : Nat} (hn : n < H) : sm (fun e => b1 (bef c e (o n))) H = n := by
  refine Eq.trans (sm_cong fun e he => ?_) (ord_cnt h n (by omega))
  show b1 (bef c e (o n)) = b1 (exb (fun m => o m == e) n)
  congr 1
  rw [Bool.eq_iff_iff, exb_iff, ← ord_bef h hn e he]
  simp
theorem ord_rk2 {H : Nat} {c o : Nat → Nat} (h : ord H c o) {i : Nat} (hi : i < H) : sm (fun e => b1 (bef c e i)) H < H ∧ o (sm (fun e => b1 (bef c e i)) H) = i := by
  obtain ⟨n, n1, rfl⟩ := h.2.1 i hi
  rw [ord_rk h n1]
  exact ⟨n1, rfl⟩
section Pack
variable {d : Nat} {M : ab_M} {K : ab_K} {D : Nat → Nat}
theorem c_fill38 {r n : Nat} {v : Int32} (hv : v = nI n) (hr : r < 6) (hn : n ≤ 4) (hK : K none (ab_sC (ab_sI M 4 0 r (nI n)) 38 0 0 3 r 0 n)) : ab_Call (d + 1) 88 [vr 1 0, vi (nI r), vr 38 0, vi v] M K := by
  subst hv
  refine caX7_fill rfl (atX7_fill ?_)
  refine ix_i r rfl hr ?_
  refine ix_i r rfl hr ?_
  refine cp_i 0 0 n rfl rfl rfl (show 0 + n ≤ 4 by omega) (show 0 + n ≤ 40 by omega) ?_
  exact hK
theorem M_row_e {j n : Nat} {v : Int32} (hv : v = nI n) (hj : j < 6) (hn : n ≤ 40) (hK : K (some (vi (nI n))) (sR (ab_sI M 50 0 j (nI n)) 51 0 (flx (M.1 51 0) (40 * j) 40 (nI 0)))) : ab_Call (d + 3) 167 [vr 49 0, vi (nI j), vi v] M K := by
  subst hv
  exact M_row hj hn hK
theorem op_pack {x y : Int32} (hR : Rel M) : OpI (d + 5) 127 224 [vi x, vi y] M := by
  obtain ⟨D, hw, hw2, hw3, hl, hc, hn, hk⟩ := Rel_D hR
  have hb := bnd_of hw
  have hb4 := hb.2.1
  have w1 : D 1 ≤ 4 := hw.1.2.1
  rcases ix_cases y (n := 6) (by omega) with ⟨r, hr, rfl⟩ | hy
  · rcases k_cases x (n := D 4) (by omega) with q | ⟨q, h4⟩ | ⟨q, h4⟩ | ⟨k, hk4, rfl⟩
    · refine ab_Call_nr (caX9_pack rfl (atX9_pack (c_hasR1 hr (c_ra_neg q ?_))))
      refine ab_Call_nr (caX10_pack rfl (atX10_pack (m_isRow1 hr (m_rf_neg q ?_))))
      exact ⟨⟨_, rfl, rfl⟩, hR⟩
    · refine ab_Call_nr (caX9_pack rfl (atX9_pack (c_hasR1 hr (c_ra_no q hc h4 ?_))))
      refine ab_Call_nr (caX10_pack rfl (atX10_pack (m_isRow1 hr (m_rf_no q hn h4 ?_))))
      exact ⟨⟨_, rfl, rfl⟩, hR⟩
    · refine ab_Call_nr (caX9_pack rfl (atX9_pack (c_hasR1 hr (c_ra_be q hc hb h4 ?_))))
      refine ab_Call_nr (caX10_pack rfl (atX10_pack (m_isRow1 hr (m_rf_be q (D := D) (fun k hk => hn k hk) hb h4 ?_))))
      exact ⟨⟨_, rfl, rfl⟩, Rel_rf 2 hR⟩
    · refine ab_Call_nr (caX9_pack rfl (atX9_pack (c_hasR1 hr (c_ra hc hb hk4 ?_))))
      refine c_pursue hl hc hw (fun M1 f1 h1 => ?_)
      have cle : ∀ i, cmv D (D 1) (kds D) k i < 1000 := fun i => by have := cmv_le hw (H := D 1) (kd := kds D) (i := i) k; omega
      refine c_sortAt h1.1.1.1 w1 (by omega) (fun i hi => h1.2.2.1 i hi k hk4 (by omega)) cle (fun M2 o f2 ho ho2 => ?_)
      have fA : frA M M2 := frA_trans (frA_S f1 (by omega)) (frA_S f2 (by omega))
      have hl2 := frA_ld fA hl
      refine c_fill38 hl2.2.1 hr w1 ?_
      generalize hM4 : ab_sC (ab_sI M2 4 0 r (nI (D 1))) 38 0 0 3 r 0 (D 1) = M4
      have f4 : frR r M M4 := by rw [← hM4]; exact frR_sC (frR_sI (frR_A fA) (Or.inl ⟨rfl, rfl, rfl⟩))
      have e9 : M4.1 9 0 1 = nI (D 1) := (frR_ld f4 hl).2.1
      have r4 : M4.1 4 0 r = nI (D 1) := by rw [← hM4]; simp [ab_sC, ab_sI]
      have r3 : ∀ n, n < D 1 → M4.1 3 r n = nI (o n) := by
        intro n hn
        rw [← hM4]
        show (if 3 = 3 ∧ r = r ∧ 0 ≤ n ∧ n < 0 + D 1 then (ab_sI M2 4 0 r (nI (D 1))).1 38 0 (0 + (n - 0)) else _) = _
        rw [if_pos ⟨rfl, rfl, by omega, by omega⟩, sI_g (by omega), Nat.sub_zero, Nat.zero_add]
        exact ho2 n hn
      have t4 : M4.1 0 0 14 = M4.1 49 0 7 := by
        rw [← hM4]
        show M2.1 0 0 14 = M2.1 49 0 7
        rw [fA.1 0 0 14 (by unfold scr; omega), fA.1 49 0 7 (by unfold scr; omega)]
        exact hR.2.2.1.1
      have hn4 := frR_nw f4 hn
      refine ab_Call_nr (caX10_pack rfl (atX10_pack (m_isRow1 hr (m_rf hn4 hb hk4 ?_))))
      refine m_runs hn4 hw (fun M5 f5 h5 => ?_)
      have hn5 := frS_nw f5 (by omega) hn4
      refine M_row_e (show M5.1 54 0 1 = nI (D 1) from nw hn5 (by omega)) hr (by omega) ?_
      generalize hM6 : sR (ab_sI M5 50 0 r (nI (D 1))) 51 0 (flx (M5.1 51 0) (40 * r) 40 (nI 0)) = M6
      have f6 : frR r M M6 := by rw [← hM6]; exact frR_fl (frR_sI (frR_trans f4 (frR_A (frA_S f5 (by omega)))) (Or.inr (Or.inr (Or.inl ⟨rfl, rfl, rfl⟩))))
      have s6 : ∀ g i, g ≠ 50 → g ≠ 51 → M6.1 g i = M5.1 g i := fun g i a b => by rw [← hM6, sR_g b, sI_g a]
      have z59 : ∀ i, i < D 1 → M6.1 59 0 (7 * i + k) = nI (cmv D (D 1) (kds D) k i) := fun i hi => by rw [s6 59 0 (by omega) (by omega)]; exact h5.1 i hi k hk4
      have s50 : M6.1 50 0 r = nI (D 1) := by rw [← hM6, sR_g (by omega)]; exact sI_eq
      have s4 : M6.1 4 0 r = nI (D 1) := by rw [s6 4 0 (by omega) (by omega), f5.2 4 0 (by omega)]; exact r4
      have s3 : ∀ n, n < D 1 → M6.1 3 r n = nI (o n) := fun n hn => by rw [s6 3 r (by omega) (by omega), f5.2 3 r (by omega)]; exact r3 n hn
      have st : M6.1 0 0 14 = M6.1 49 0 7 := by rw [s6 0 0 (by omega) (by omega), s6 49 0 (by omega) (by omega), f5.2 0 0 (by omega), f5.2 49 0 (by omega)]; exact t4
      have out : ∀ j, j ≤ D 1 → ∀ f : Nat → Int32, (∀ k, ¬ (40 * r ≤ k ∧ k < 40 * r + 40) → f k = M6.1 51 0 k) → (∀ i, i < j → f (40 * r + sm (fun e => b1 (bef (cmv D (D 1) (kds D) k) e i)) (D 1)) = nI i) → ab_At miX10_pack (d + 5) 41 [some (vr 49 0), some (vi (nI k)), some (vi (nI r)), none, some (vi (nI (D 1))), some (vi (nI j))] [] (sR M6 51 0 f) (fun r2 M2 => (∃ v, some (vi (M4.1 9 0 1)) = some (vi v) ∧ r2.map ab_nr = some (vi v)) ∧ Rel M2) := by
        refine up_ind fun j hj ih f hfo hfi => ?_
        refine atX10_pack ?_
        refine And.intro (fun h => ?_) (fun h => ?_)
        · have : j = D 1 := by have := nle_use h; omega
          subst this
          refine ⟨⟨M4.1 9 0 1, rfl, by rw [e9]; rfl⟩, ?_⟩
          refine Rel_rows hR hr (n := D 1) (by omega) ⟨fun g i k q q2 => ?_, f6.2.1, f6.2.2⟩ s4 s50 (fun n hn => ?_) st
          · by_cases e : g = 51 ∧ i = 0
            · obtain ⟨rfl, rfl⟩ := e
              rw [sR_eq, hfo k (fun w => q2 (Or.inr (Or.inr (Or.inr (Or.inl ⟨rfl, rfl, w.1, w.2⟩)))))]
              exact f6.1 51 0 k q q2
            · rw [sR_ne e]
              exact f6.1 g i k q q2
          · rw [sR_g (by omega), sR_eq, s3 n hn]
            have hon := ho.1 n hn
            have := hfi (o n) hon
            rw [ord_rk ho hn] at this
            exact this.symm
        · have hjn := nlt_use h
          have inner : ∀ e, e ≤ D 1 → ab_At miX10_pack (d + 5) 54 [some (vr 49 0), some (vi (nI k)), some (vi (nI r)), none, some (vi (nI (D 1))), some (vi (nI j)), some (vi (nI (sm (fun e => b1 (bef (cmv D (D 1) (kds D) k) e j)) e))), some (vi (nI e))] [] (sR M6 51 0 f) (fun r2 M2 => (∃ v, some (vi (M4.1 9 0 1)) = some (vi v) ∧ r2.map ab_nr = some (vi v)) ∧ Rel M2) := by
            refine up_ind fun e he ih2 => ?_
            refine atX10_pack ?_
            refine And.intro (fun h => ?_) (fun h => ?_)
            · have : e = D 1 := by have := nle_use h; omega
              subst this
              have hrk := (ord_rk2 ho hjn).1
              refine ix_i (40 * r + sm (fun e => b1 (bef (cmv D (D 1) (kds D) k) e j)) (D 1)) (by simp only [pk_mul, nI_add]) (show _ < 240 by omega) ?_
              have := ih hjn (upd f (40 * r + sm (fun e => b1 (bef (cmv D (D 1) (kds D) k) e j)) (D 1)) (nI j)) (fun q w => by rw [upd_ne (by omega)]; exact hfo q w) (fun i hi => by
                by_cases e : i = j
                · subst e; exact upd_eq
                · rw [upd_ne (fun w => e (by
                    have a1 := (ord_rk2 ho (show i < D 1 by omega)).2
                    have a2 := (ord_rk2 ho hjn).2
                    rw [← a1, ← a2, show sm (fun e => b1 (bef (cmv D (D 1) (kds D) k) e i)) (D 1) = sm (fun e => b1 (bef (cmv D (D 1) (kds D) k) e j)) (D 1) by omega]))]
                  exact hfi i (by omega))
              rw [← sI_sR, ← nI_1 j] at this
              exact this
            · have hen := nlt_use h
              have a1 := z59 e hen
              have a2 := z59 j hjn
              have l1 := cle e
              have l2 := cle j
              have := ih2 hen
              rw [← nI_1 e, sm, ← nI_add] at this
              refine ix_i (7 * e + k) (by simp only [pk_mul, nI_add]) (show _ < 28 by omega) ?_
              refine ix_i (7 * j + k) (by simp only [pk_mul, nI_add]) (show _ < 28 by omega) ?_
              refine And.intro (fun q => ?_) (fun q => ?_)
              · have q : nI (cmv D (D 1) (kds D) k e) < nI (cmv D (D 1) (kds D) k j) := by rw [← a1, ← a2]; exact q
                have q := nlt_use q
                rw [b1_t (bef_iff.mpr (Or.inl q))] at this
                exact this
              · have q : nI (cmv D (D 1) (kds D) k j) ≤ nI (cmv D (D 1) (kds D) k e) := by rw [← a1, ← a2]; exact q
                have q := nle_use q
                refine ix_i (7 * e + k) (by simp only [pk_mul, nI_add]) (show _ < 28 by omega) ?_
                refine ix_i (7 * j + k) (by simp only [pk_mul, nI_add]) (show _ < 28 by omega) ?_
                have nb : ¬ (cmv D (D 1) (kds D) k e = cmv D (D 1) (kds D) k j ∧ e < j) → bef (cmv D (D 1) (kds D) k) e j = false := fun w => by
                  cases z : bef (cmv D (D 1) (kds D) k) e j
                  · rfl
                  · rw [bef_iff] at z; exact absurd (by omega) w
                refine And.intro (fun q2 => ?_) (fun q2 => ?_)
                · have q2 : ¬ nI (cmv D (D 1) (kds D) k e) = nI (cmv D (D 1) (kds D) k j) := by rw [← a1, ← a2]; exact q2
                  have q2 := nne_use q2
                  rw [b1_f (nb (by omega))] at this
                  exact this
                · have q2 : nI (cmv D (D 1) (kds D) k e) = nI (cmv D (D 1) (kds D) k j) := by rw [← a1, ← a2]; exact q2
                  have q2 := neq_use q2
                  refine And.intro (fun q3 => ?_) (fun q3 => ?_)
                  · have q3 := nle_use q3
                    rw [b1_f (nb (by omega))] at this
                    exact this
                  · have q3 := nlt_use q3
                    rw [b1_t (bef_iff.mpr (Or.inr ⟨q2, q3⟩))] at this
                    exact this
          exact inner 0 (Nat.zero_le _)
      have := out 0 (Nat.zero_le _) (M6.1 51 0) (fun _ _ => rfl) (fun i hi => absurd hi (by omega))
      rw [sR_self] at this
      exact this
  · refine ab_Call_nr (caX9_pack rfl (atX9_pack (c_hasR0 hy ?_)))
    refine ab_Call_nr (caX10_pack rfl (atX10_pack (m_isRow0 hy ?_)))
    exact ⟨⟨_, rfl, rfl⟩, hR⟩
end Pack
