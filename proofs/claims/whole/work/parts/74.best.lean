/-! ===== best ===== -/
section First2
variable {d : Nat} {M : ab_M} {K : ab_K} {D : Nat → Nat}
theorem m_firstAt2 {k : Nat} {v : Int32} (hv : v = nI k) (hn : M.1 54 0 1 = nI (D 1)) (hw : wf D) (hO : moO D M) (hk : k < D 4) (hH : 0 < D 1) (hK : ∀ f, fst1 (cmv D (D 1) (kds D) k) (D 1) f → K (some (vi (nI f))) M) : ab_Call d 225 [vr 49 0, vi v] M K := by
  subst hv
  refine caX10_firstAt rfl (atX10_firstAt ?_)
  have w1 : D 1 ≤ 4 := hw.1.2.1
  have hb4 := (bnd_of hw).2.1
  have cle : ∀ i, cmv D (D 1) (kds D) k i < 1000 := fun i => by have := cmv_le hw (H := D 1) (kd := kds D) (i := i) k; omega
  have key : ∀ j, j ≤ D 1 → ∀ f : Int32, ((f = -1 ∧ j = 0) ∨ ∃ y, y < j ∧ f = nI y ∧ ∀ i, i < j → i ≠ y → bef (cmv D (D 1) (kds D) k) y i = true) → ab_At miX10_firstAt d 4 [some (vr 49 0), some (vi (nI k)), some (vi f), some (vi (nI j))] [] M K := by
    refine up_ind fun j hj ih f hf => ?_
    refine atX10_firstAt ?_
    refine And.intro (fun h => ?_) (fun h => ?_)
    · rw [hn] at h
      have : j = D 1 := by have := nle_use h; omega
      subst this
      rcases hf with ⟨-, z⟩ | ⟨y, y1, rfl, y2⟩
      · omega
      · exact hK y ⟨y1, y2⟩
    · rw [hn] at h
      have hjn := nlt_use h
      have new : (∀ i, i < j → bef (cmv D (D 1) (kds D) k) j i = true) → ab_At miX10_firstAt d 4 [some (vr 49 0), some (vi (nI k)), some (vi (nI j)), some (vi (nI j + nI 1))] [] M K := by
        intro w
        have := ih hjn (nI j) (Or.inr ⟨j, by omega, rfl, fun i hi q => w i (by omega)⟩)
        rw [← nI_1] at this
        exact this
      refine And.intro (fun q => ?_) (fun q => ?_)
      · rcases hf with ⟨-, z⟩ | ⟨y, y1, y3, y2⟩
        · exact new (fun i hi => by omega)
        · exact absurd q (neg_no y3 (by omega))
      · rcases hf with ⟨z, -⟩ | ⟨y, y1, y3, y2⟩
        · exact absurd (neg_m1 z) (fun w => i_lt_le w q)
        · have ej := hO.1 j hjn k hk
          have ey := hO.1 y (by omega) k hk
          have l1 := cle j
          have l2 := cle y
          refine ix_i (7 * j + k) (by simp only [pk_mul, nI_add]) (show _ < 28 by omega) ?_
          refine ix_i (7 * y + k) (by rw [y3]; simp only [pk_mul, nI_add]) (show _ < 28 by omega) ?_
          refine And.intro (fun q2 => ?_) (fun q2 => ?_)
          · rw [ej, ey] at q2
            have q2 := nle_use q2
            have := ih hjn f (Or.inr ⟨y, by omega, y3, fun i hi w => by
              by_cases e : i = j
              · subst e; rw [bef_iff]; omega
              · exact y2 i (by omega) w⟩)
            rw [← nI_1] at this
            exact this
          · rw [ej, ey] at q2
            have q2 := nlt_use q2
            refine new (fun i hi => ?_)
            rw [bef_iff]
            by_cases e : i = y
            · subst e; omega
            · have := y2 i hi e
              rw [bef_iff] at this
              omega
  exact key 0 (Nat.zero_le _) (-1) (Or.inl ⟨rfl, rfl⟩)
theorem m_inn2 {i : Nat} (hn : M.1 54 0 4 = nI (D 4)) (hw : wf D) (hi : i < D 1) (h4 : 0 < D 4) (hO : moO D M) (hK : K (some (vi (nI (cmv D (D 1) (kds D) (D 4 - 1) i)))) M) : ab_Call d 200 [vr 49 0, vi (nI i)] M K := by
  refine caX10_inn rfl (atX10_inn ?_)
  have w1 : D 1 ≤ 4 := hw.1.2.1
  have hb4 : D 4 ≤ 7 := (bnd_of hw).2.1
  refine ix_i (7 * i + (D 4 - 1)) (by rw [hn, pk_mul, nI_add, pk_sub (by omega), show 7 * i + D 4 - 1 = 7 * i + (D 4 - 1) by omega]) (show _ < 28 by omega) ?_
  rw [← hO.1 i hi (D 4 - 1) (by omega)] at hK
  exact hK
end First2
/-- the first hound's minute at the inn -/
def fmE (E : Nat → Nat) : Nat := mnv (cmv E (E 1) (kds E) (E 4 - 1)) (E 1)
theorem fst1_mn {c : Nat → Nat} {H f : Nat} (h : fst1 c H f) (hc : c f ≤ 1000000) : c f = mnv c H := by
  have a := mnv_le (c := c) h.1
  have b : ∀ n, n ≤ H → c f ≤ mnv c n := by
    intro n
    induction n with
    | zero => intro _; exact hc
    | succ n ih =>
      intro hn
      have i1 := ih (by omega)
      have : c f ≤ c n := by
        by_cases e : n = f
        · rw [e]; exact Nat.le_refl _
        · have := h.2 n (by omega) e
          rw [bef_iff] at this
          omega
      rw [mnv]
      omega
  have := b H (Nat.le_refl _)
  omega
theorem fmE_le {E : Nat → Nat} (hw : wf E) (h1 : 0 < E 1) : fmE E < 1000 := by
  unfold fmE
  have a := mnv_le (c := cmv E (E 1) (kds E) (E 4 - 1)) h1
  have b := cmv_le hw (H := E 1) (kd := kds E) (i := 0) (E 4 - 1)
  have := (bnd_of hw).2.1
  omega
/-- the country with a code's end laid -/
def lyC (D : Nat → Nat) (c : Nat) : Nat → Nat := lyD D (c / 10 / 10) (c / 10 % 10) (c % 10)
noncomputable def okc (D : Nat → Nat) (c : Nat) : Bool := decide (1 ≤ c % 10 ∧ c % 10 ≤ 5) && adB D (c / 10)
/-- the best of the codes below c (0: none), and its minute -/
noncomputable def bst (D : Nat → Nat) : Nat → Nat × Nat
  | 0 => (0, 0)
  | c + 1 => if okc D c then (if (bst D c).1 = 0 ∨ (bst D c).2 < fmE (lyC D c) then (c, fmE (lyC D c)) else bst D c) else bst D c
theorem bst_skip {D : Nat → Nat} {a b : Nat} (h : a ≤ b) (hn : ∀ c, a ≤ c → c < b → okc D c = false) : bst D b = bst D a := by
  obtain ⟨r, rfl⟩ := Nat.exists_eq_add_of_le h
  induction r with
  | zero => rfl
  | succ r ih =>
    rw [← Nat.add_assoc, bst, hn (a + r) (by omega) (by omega)]
    exact ih (by omega) (fun c h1 h2 => hn c h1 (by omega))
theorem okc_1 {D : Nat → Nat} {c0 m : Nat} (h : adB D c0 = true) (m1 : 1 ≤ m) (m5 : m ≤ 5) : okc D (10 * c0 + m) = true := by
  unfold okc
  rw [show (10 * c0 + m) / 10 = c0 by omega, h, decide_eq_true (by omega)]
  rfl
theorem okc_0 {D : Nat → Nat} {c : Nat} (h : c % 10 = 0 ∨ 6 ≤ c % 10 ∨ adB D (c / 10) = false) : okc D c = false := by
  unfold okc
  rcases h with h | h | h
  · rw [decide_eq_false (by omega)]; rfl
  · rw [decide_eq_false (by omega)]; rfl
  · rw [h, Bool.and_false]
theorem okc_use {D : Nat → Nat} {c : Nat} (h : okc D c = true) : 1 ≤ c % 10 ∧ c % 10 ≤ 5 ∧ adB D (c / 10) = true := by
  unfold okc at h
  rw [Bool.and_eq_true] at h
  have := of_decide_eq_true h.1
  exact ⟨this.1, this.2, h.2⟩
theorem bst_le {D : Nat → Nat} (hw : wf D) (h5 : D 5 < 8) (h1 : 0 < D 1) : ∀ c, (bst D c).1 ≤ c ∧ (bst D c).2 < 1000
  | 0 => ⟨Nat.le_refl _, by show 0 < 1000; omega⟩
  | c + 1 => by
    have ih := bst_le hw h5 h1 c
    rw [bst]
    split
    · rename_i q
      obtain ⟨m1, m5, ha⟩ := okc_use q
      obtain ⟨a1, a2, a3⟩ := adB_use ha
      have hw' : wf (lyC D c) := wf_ly hw h5 a3 a2 m1 m5
      have e1 : lyC D c 1 = D 1 := lyD_o (by omega) (by omega) (by omega) (by omega)
      have := fmE_le hw' (by rw [e1]; exact h1)
      split
      · exact ⟨by show c ≤ c + 1; omega, this⟩
      · exact ⟨by omega, ih.2⟩
    · exact ⟨by omega, ih.2⟩
/-- how the best is written -/
def bI (b : Nat) : Int32 := if b = 0 then -9 else nI b
theorem bI_0 : bI 0 = -9 := rfl
theorem bI_p {b : Nat} (h : b ≠ 0) : bI b = nI b := if_neg h
section BestC
variable {d : Nat} {M : ab_M} {K : ab_K} {D : Nat → Nat}
theorem c_setEnd {e x y m : Nat} {v1 v2 v3 v4 : Int32} (h1 : v1 = nI e) (h2 : v2 = nI x) (h3 : v3 = nI y) (h4 : v4 = nI m) (he : e < 8) (hK : K none (seM M e x y m)) : ab_Call d 25 [vr 14 4, vi v1, vi v2, vi v3, vi v4] M K := by
  subst h1
  subst h2
  subst h3
  subst h4
  refine caX1_setEnd rfl (atX1_setEnd ?_)
  refine ix_i e rfl he ?_
  refine ix_i e rfl he ?_
  refine ix_i e rfl he ?_
  exact hK
theorem frA_se {M' : ab_M} {e x y m : Nat} (h : frA M M') : frA M (seM M' e x y m) := frA_sI (frA_sI (frA_sI h (by unfold scr; omega)) (by unfold scr; omega)) (by unfold scr; omega)
/-- while the best end is looked for -/
def bsI (D : Nat → Nat) (M M3 : ab_M) : Prop := frA M M3 ∧ tb M3 D ∧ M3.1 14 4 2 = nI (D 5 + 1) ∧ hdC M3 (D 1) (kds D) ∧ M3.1 39 0 5 = nI (cnt D 70) ∧ opn D M3 40 70
theorem c_bestEnd (hl : ldC M 0 D) (hc : crC M 0 D) (hw : wf D) (h4 : 0 < D 4) (h5 : D 5 < 8) (h0 : ∀ M', frA M M' → D 1 = 0 → K (some (vi (-9))) M') (hK : ∀ M', frA M M' → 0 < D 1 → (0 < (bst D 700).1 → M'.1 39 0 8 = nI (bst D 700).2) → K (some (vi (bI (bst D 700).1))) M') : ab_Call (d + 4) 68 [vr 39 0] M K := by
  refine ab_Call_nr (caX5_bestEnd rfl (atX5_bestEnd ?_))
  have hb := bnd_of hw
  have b5 := hb.2.2.1
  refine c_prepare hl hc hw (fun M1 f1 t1 t2 t3 t4 t5 => ?_)
  have hl1 := frA_ld f1 hl
  have hc1 := frA_cr f1 (by omega) hc
  have e1 : M1.1 9 0 1 = nI (D 1) := hl1.2.1
  have w1 : D 1 ≤ 4 := hw.1.2.1
  refine And.intro (fun q => ?_) (fun q => ?_)
  · rw [e1] at q
    exact h0 M1 f1 (neq_use q)
  · rw [e1] at q
    have hp : 0 < D 1 := Nat.pos_of_ne_zero (nne_use q)
    refine c_isFull0 hc1 h5 ?_
    have key : ∀ n, n ≤ cnt D 70 → ∀ c, c ≤ 70 → cnt D c = n → ∀ M3, bsI D M M3 → (0 < (bst D (10 * c)).1 → M3.1 39 0 8 = nI (bst D (10 * c)).2) → ab_At miX5_bestEnd (d + 4) 47 [some (vr 39 0), some (vi (bI (bst D (10 * c)).1)), some (vi (nI n))] [] M3 (fun r M => K (r.map ab_nr) M) := by
      refine up_ind fun n hn ih c hc70 hcn M3 hI hlt => ?_
      refine atX5_bestEnd ?_
      have hcl := cnt_all hw.1
      refine And.intro (fun q => ?_) (fun q => ?_)
      · rw [hI.2.2.2.2.1] at q
        have : n = cnt D 70 := by have := nle_use q; omega
        have sk : bst D 700 = bst D (10 * c) := bst_skip (by omega) (fun c' h1 h2 => okc_0 (by
          refine Or.inr (Or.inr ?_)
          cases w : adB D (c' / 10)
          · rfl
          · have x1 := cnt_mono (D := D) (show c ≤ c' / 10 by omega)
            have x2 := cnt_mono (D := D) (show c' / 10 + 1 ≤ 70 by omega)
            rw [cnt_1 w] at x2
            omega))
        rw [← sk] at hlt ⊢
        exact hK M3 hI.1 hp hlt
      · rw [hI.2.2.2.2.1] at q
        have hnn := nlt_use q
        obtain ⟨c0, z1, z2, z3, z4, z5⟩ := cnt_next (D := D) (70 - c) c (by omega) (by omega)
        obtain ⟨a1, a2, a3⟩ := adB_use z3
        have sk : bst D (10 * c) = bst D (10 * c0 + 1) := (bst_skip (by omega) (fun c' h1 h2 => okc_0 (by
          by_cases w : c' % 10 = 0
          · exact Or.inl w
          · exact Or.inr (Or.inr (z5 (c' / 10) (by omega) (by omega)))))).symm
        rw [sk] at hlt ⊢
        have inn : ∀ m, m ≤ 6 → 1 ≤ m → ∀ M3, bsI D M M3 → (0 < (bst D (10 * c0 + m)).1 → M3.1 39 0 8 = nI (bst D (10 * c0 + m)).2) → ab_At miX5_bestEnd (d + 4) 57 [some (vr 39 0), some (vi (bI (bst D (10 * c0 + m)).1)), some (vi (nI n)), some (vi (nI m))] [] M3 (fun r M => K (r.map ab_nr) M) := by
          refine up_ind fun m hm ih2 m1 M3 hI hlt => ?_
          refine atX5_bestEnd ?_
          obtain ⟨i1, i2, i3, i4, i5, i6⟩ := hI
          refine And.intro (fun q => ?_) (fun q => ?_)
          · have : m = 6 := by have := nlt_use (a := 5) q; omega
            subst this
            have sk2 : bst D (10 * (c0 + 1)) = bst D (10 * c0 + 6) := bst_skip (by omega) (fun c' h1 h2 => okc_0 (Or.inr (Or.inl (by omega))))
            have := ih hnn (c0 + 1) (by omega) (by rw [cnt_1 z3]; omega) M3 ⟨i1, i2, i3, i4, i5, i6⟩
            rw [sk2, ← nI_1 n] at this
            exact this hlt
          · have m5 := nle_use (b := 5) q
            have e40 : M3.1 40 0 n = nI c0 := by rw [← hcn, ← z4]; exact i6 c0 z2 z3
            have hl3 := frA_ld i1 hl
            have hc3 := frA_cr i1 (by omega) hc
            refine ix_i n rfl (show n < 24 by omega) ?_
            refine And.intro (by decide) ?_
            refine ix_i n rfl (show n < 24 by omega) ?_
            refine And.intro (by decide) ?_
            refine c_setEnd (e := D 5) (x := c0 / 10) (y := c0 % 10) (m := m) hc3.2.2.1 (by rw [e40]; exact pk_div (by omega) (by omega) (by omega)) (by rw [e40]; exact pk_rem (by omega) (by omega) (by omega)) rfl h5 ?_
            have lc : lyC D (10 * c0 + m) = lyD D (c0 / 10) (c0 % 10) m := by
              unfold lyC
              rw [show (10 * c0 + m) / 10 = c0 by omega, show (10 * c0 + m) % 10 = m by omega]
            have hw' : wf (lyD D (c0 / 10) (c0 % 10) m) := wf_ly hw h5 a3 a2 m1 m5
            have x1 : lyD D (c0 / 10) (c0 % 10) m 1 = D 1 := lyD_o (by omega) (by omega) (by omega) (by omega)
            have x4 : lyD D (c0 / 10) (c0 % 10) m 4 = D 4 := lyD_o (by omega) (by omega) (by omega) (by omega)
            have xk : ∀ i, i < D 1 → kds (lyD D (c0 / 10) (c0 % 10) m) i = kds D i := fun i hi => lyD_o (by omega) (by omega) (by omega) (by omega)
            have hd4 : hdC (seM M3 (D 5) (c0 / 10) (c0 % 10) m) (lyD D (c0 / 10) (c0 % 10) m 1) (kds (lyD D (c0 / 10) (c0 % 10) m)) := ⟨by rw [x1]; exact i4.1, fun i hi => by rw [x1] at hi; rw [xk i hi]; exact i4.2 i hi⟩
            have fA4 : frA M (seM M3 (D 5) (c0 / 10) (c0 % 10) m) := frA_se i1
            refine c_pursueAll (D := lyD D (c0 / 10) (c0 % 10) m) (ldC_cong lyD_eqL hw.1 (frA_ld fA4 hl)) (tb_cr (tb_ly i2 hb h5) (by rw [lyD_5]; exact i3)) hw' hd4 hw'.1.2.1 (fun i hi => hw'.1.2.2.2.1 i hi) (fun M5 f5 hO => ?_)
            have fm : ∀ {K : ab_K}, K (some (vi (nI (fmE (lyC D (10 * c0 + m)))))) M5 → ab_Call (d + 3) 16 [vr 21 0] M5 K := by
              intro K hK
              refine c_firstMinute hw' hO (by rw [x4]; exact h4) (by rw [x1]; exact hp) hw'.1.2.1 (fun f hf => ?_)
              rw [fst1_mn hf (by have := cmv_le hw' (H := lyD D (c0 / 10) (c0 % 10) m 1) (kd := kds (lyD D (c0 / 10) (c0 % 10) m)) (i := f) (lyD D (c0 / 10) (c0 % 10) m 4 - 1); have := (bnd_of hw').2.1; omega)]
              rw [lc] at hK
              exact hK
            have I5 : bsI D M M5 := ⟨frA_trans fA4 (frA_S f5 (by omega)), tb_un (tb_S (tb_ly i2 hb h5) f5 (by omega)) hb h5, by rw [f5.2 14 4 (by omega)]; exact i3, ⟨by have := hO.1.1.1; rw [x1] at this; exact this, fun i hi => by have := hO.1.1.2 i (by rw [x1]; exact hi); rw [xk i hi] at this; exact this⟩, by rw [f5.2 39 0 (by omega)]; exact i5, opn_fr i6 (fun k => by rw [f5.2 40 0 (by omega)]; rfl)⟩
            have e8 : M5.1 39 0 8 = M3.1 39 0 8 := by rw [f5.2 39 0 (by omega)]; rfl
            have e405 : M5.1 40 0 n = nI c0 := by rw [f5.2 40 0 (by omega)]; exact e40
            have hbl := bst_le hw h5 hp (10 * c0 + m)
            have hnx := ih2 (by omega) (by omega)
            rw [← nI_1 m, ← Nat.add_assoc, bst, if_pos (okc_1 z3 m1 m5)] at hnx
            have yes : ((bst D (10 * c0 + m)).1 = 0 ∨ (bst D (10 * c0 + m)).2 < fmE (lyC D (10 * c0 + m))) → ab_At miX5_bestEnd (d + 4) 57 [some (vr 39 0), some (vi (nI 10 * M5.1 40 0 n + nI m)), some (vi (nI n)), some (vi (nI m + nI 1))] [] (ab_sI M5 39 0 8 (nI (fmE (lyC D (10 * c0 + m))))) (fun r M => K (r.map ab_nr) M) := by
              intro w
              rw [if_pos w] at hnx
              have := hnx (ab_sI M5 39 0 8 (nI (fmE (lyC D (10 * c0 + m))))) ⟨frA_sI I5.1 (by unfold scr; omega), tb_fr I5.2.1 rfl rfl rfl rfl rfl rfl rfl, I5.2.2.1, I5.2.2.2.1, I5.2.2.2.2.1, I5.2.2.2.2.2⟩ (fun _ => sI_eq)
              rw [bI_p (by show 10 * c0 + m ≠ 0; omega)] at this
              rw [e405, pk_mul, nI_add]
              exact this
            refine And.intro (fun q => ?_) (fun q => ?_)
            · refine ix_i n rfl (show n < 24 by omega) ?_
              refine fm ?_
              refine yes (Or.inl ?_)
              by_cases w : (bst D (10 * c0 + m)).1 = 0
              · exact w
              · rw [bI_p w] at q
                exact absurd q (n9 (by omega))
            · have w : (bst D (10 * c0 + m)).1 ≠ 0 := fun w => q (by rw [w]; rfl)
              refine fm ?_
              have e8' : M5.1 39 0 8 = nI (bst D (10 * c0 + m)).2 := by rw [e8]; exact hlt (by omega)
              have x1' : lyC D (10 * c0 + m) 1 = D 1 := by rw [lc]; exact x1
              have hfl := fmE_le (E := lyC D (10 * c0 + m)) (by rw [lc]; exact hw') (by rw [x1']; exact hp)
              refine And.intro (fun q => ?_) (fun q => ?_)
              · rw [e8'] at q
                have q := nle_use q
                rw [if_neg (by omega)] at hnx
                exact hnx M5 I5 (fun _ => e8')
              · rw [e8'] at q
                have q := nlt_use q
                refine ix_i n rfl (show n < 24 by omega) ?_
                refine fm ?_
                exact yes (Or.inr q)
        exact inn 1 (by omega) (by omega) M3 hI hlt
    have e14 : M1.1 14 0 2 = nI (D 5) := hc1.2.2.1
    have := key 0 (Nat.zero_le _) 0 (by omega) rfl (ab_sI M1 14 4 2 (M1.1 14 0 2 + nI 1)) ⟨frA_sI f1 (by unfold scr; omega), tb_fr t1 rfl rfl rfl rfl rfl rfl rfl, by rw [sI_eq, e14, nI_add], t3, t4, t5⟩ (fun h => absurd h (by show ¬ 0 < 0; omega))
    exact this
end BestC
