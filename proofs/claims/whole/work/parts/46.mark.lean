/-! ===== counting bits; mark ===== -/
def pc8 (s : Nat) : Nat := sm (wb s) 8
theorem pc8_bs {p : Nat → Bool} {n : Nat} (hn : n ≤ 8) : pc8 (bs p n) = sm (fun e => b1 (p e)) n := by
  have h1 : ∀ m, n ≤ m → sm (wb (bs p n)) m = sm (fun e => b1 (p e)) n := by
    intro m hm
    induction m with
    | zero => rw [show n = 0 by omega]; rfl
    | succ m ih =>
      by_cases e : n = m + 1
      · subst e
        exact sm_cong (fun k hk => by rw [bs_wb p hk]; rfl)
      · rw [sm, ih (by omega), wb_tb2, bs_tb, show decide (m < n) = false by simp; omega]
        rfl
  exact h1 8 hn
theorem bc_all : ∀ s, s < 256 → (let i1 := nI s - (ab_ushr (nI s) (nI 1) &&& ab_cv 1431655765); let i2 := (i1 &&& ab_cv 858993459) + (ab_ushr i1 (nI 2) &&& ab_cv 858993459); let i3 := (i2 + ab_ushr i2 (nI 4)) &&& ab_cv 252645135; let i4 := i3 + ab_ushr i3 (nI 8); let i5 := i4 + ab_ushr i4 (nI 16); i5 &&& ab_cv 63) = nI (pc8 s) := by decide +kernel
theorem pc8_step : ∀ l, l < 256 → l ≠ 0 → (l &&& (l - 1)) < 256 ∧ pc8 (l &&& (l - 1)) + 1 = pc8 l := by decide +kernel
theorem pc8_0 : ∀ l, l < 256 → pc8 l ≤ 8 ∧ (pc8 l = 0 → l = 0) := by decide +kernel
theorem exb_one {p : Nat → Bool} : ∀ {n : Nat}, (∀ a b, a < n → b < n → p a = true → p b = true → a = b) → b1 (exb p n) = sm (fun k => b1 (p k)) n
  | 0, _ => rfl
  | n + 1, h => by
    rw [exb, sm, ← exb_one (n := n) (fun a b ha hb => h a b (by omega) (by omega))]
    cases hp : p n
    · rw [Bool.or_false]; rfl
    · have : exb p n = false := by
        cases he : exb p n
        · rfl
        · obtain ⟨j, j1, j2⟩ := exb_iff.mp he
          have := h j n (by omega) (by omega) j2 hp
          omega
      rw [this]
      rfl
section Mark
variable {d c l : Nat} {M : ab_M} {K : ab_K} {D : Nat → Nat}
theorem c_bitCount {s : Nat} {v : Int32} (hv : v = nI s) (hs : s < 256) (hK : K (some (vi (nI (pc8 s)))) M) : ab_Call d 266 [vi v] M K := by
  subst hv
  refine caJ6_bitCount_0f7a4 rfl (atJ6_bitCount_0f7a4 ?_)
  rw [← bc_all s hs] at hK
  exact hK
theorem m_bits {s : Nat} {v : Int32} (hv : v = nI s) (hs : s < 256) (hK : K (some (vi (nI (pc8 s)))) M) : ab_Call d 203 [vi v] M K := by
  subst hv
  refine caX10_bits rfl (atX10_bits ?_)
  have key : ∀ n l, l < 256 → pc8 l = n → ∀ a, a + n = pc8 s → ab_At miX10_bits d 4 [none, some (vi (nI a)), some (vi (nI l))] [] M K := by
    intro n
    induction n with
    | zero =>
      intro l hl hn a ha
      refine atX10_bits ?_
      have : l = 0 := (pc8_0 l hl).2 hn
      subst this
      refine And.intro (fun _ => ?_) (fun q => absurd rfl q)
      rw [show a = pc8 s by omega]
      exact hK
    | succ n ih =>
      intro l hl hn a ha
      refine atX10_bits ?_
      have l0 : l ≠ 0 := fun q => by subst q; exact absurd (hn.symm.trans (show pc8 0 = 0 by decide)) (by omega)
      obtain ⟨g1, g2⟩ := pc8_step l hl l0
      refine And.intro (fun q => absurd (neq_use q) l0) (fun _ => ?_)
      have := ih (l &&& (l - 1)) g1 (by omega) (a + 1) (by omega)
      rw [← nI_and, ← pk_sub (by omega), ← nI_1 a] at this
      exact this
  exact key (pc8 s) s hs rfl 0 (by omega)
theorem c_minutesFor {kd : Nat} {v : Int32} (hv : v = nI kd) (hl : ldC M l D) (hc : crC M c D) (hw : wf D) (hkd : kd ≤ 5) (h4 : 0 < D 4) (hK : K (some (vi (nI (sm (fun j => pce kd (sg D j)) (D 4 - 1))))) M) : ab_Call (d + 2) 39 [vr 14 c, vr 9 l, vi v] M K := by
  subst hv
  refine caX1_minutesFor rfl (atX1_minutesFor ?_)
  have hb := bnd_of hw
  have hb4 := hb.2.1
  have key : ∀ j, j ≤ D 4 - 1 → ab_At miX1_minutesFor (d + 2) 5 [some (vr 14 c), some (vr 9 l), some (vi (nI kd)), some (vi (nI (sm (fun j => pce kd (sg D j)) j))), some (vi (nI j))] [] M K := by
    refine up_ind fun j hj ih => ?_
    refine atX1_minutesFor ?_
    refine c_last hc h4 ?_
    refine And.intro (fun h => ?_) (fun h => ?_)
    · have : j = D 4 - 1 := by have := nle_use h; omega
      subst this
      exact hK
    · have hjn := nlt_use h
      refine c_nextPath hl hc hb (by omega) ?_
      refine c_pace hkd (sg_le hw.1 j) ?_
      have := ih hjn
      rw [← nI_1 j, sm, ← nI_add] at this
      exact this
  exact key 0 (Nat.zero_le _)
/-- a mark's part at a place -/
def inc (D : Nat → Nat) (i kind j : Nat) : Nat := if kind = 1 then sg D j - pce 1 (sg D j) else if kind = 2 then b1 (cal D (D 1) (kds D) j (cmv D (D 1) (kds D) j) i) else if kind = 3 then pc8 (bs (gp D 3 j) (D 5)) else if kind = 4 then b1 (ck D j) else 1
theorem m_mark {i kind : Nat} (hn : nwM M 54 0 D) (hw : wf D) (hi : i < D 1) (k1 : 1 ≤ kind) (k5 : kind ≤ 5) (hU : (kds D i = kind ∨ kind = 0 ∨ (kds D i = 4 ∧ kind = 1) ∨ (kds D i = 5 ∧ kind = 2))) (hK : ∀ M', frS 59 61 M M' → K (some (vi (nI (sm (inc D i kind) (D 4 - 1))))) M') : ab_Call (d + 5) 204 [vr 49 0, vi (nI i), vi (nI kind)] M K := by
  refine ab_Call_nr (caX10_mark rfl (atX10_mark ?_))
  have hb := bnd_of hw
  have hb4 := hb.2.1
  have hb5 := hb.2.2.1
  have w1 : D 1 ≤ 4 := hw.1.2.1
  have e6 : M.1 54 0 (6 + i) = nI (kds D i) := nw hn (by omega)
  refine m_isHound1 hn hi w1 ?_
  refine c_in1 (lo := 1) (hi := 5) rfl rfl k1 k5 (by omega) ?_
  refine ix_i (6 + i) (by simp only [nI_add]) (show _ < 78 by omega) ?_
  rw [e6]
  refine m_isOf (hw.1.2.2.2.1 i hi) k5 (fun _ => ?_) (fun q => absurd hU q)
  refine m_runs hn hw (fun M' hf hO => ?_)
  have hn' := frS_nw hf (by omega) hn
  have key : ∀ j, j ≤ D 4 - 1 → ab_At miX10_mark (d + 5) 53 [some (vr 49 0), some (vi (nI i)), some (vi (nI kind)), some (vi (nI (sm (inc D i kind) j))), some (vi (nI j))] [] M' (fun r M => K (r.map ab_nr) M) := by
    refine up_ind fun j hj ih => ?_
    refine atX10_mark ?_
    refine And.intro (fun h => ?_) (fun h => ?_)
    · rw [nw hn' (by omega), nI_sub1 (by omega) (by omega)] at h
      have : j = D 4 - 1 := by omega
      subst this
      exact hK M' hf
    · rw [nw hn' (by omega), nI_sub1_lt (by omega) (by omega)] at h
      have := ih (by omega)
      rw [← nI_1 j, sm, ← nI_add] at this
      refine And.intro (fun q => ?_) (And.intro (fun q => ?_) (And.intro (fun q => ?_) (And.intro (fun q => ?_) (And.intro (fun q => ?_) trivial))))
      · rw [nI_toInt (by omega)] at q
        have e : inc D i kind j = 1 := by
          have : kind = 5 := by simp at q; omega
          subst this
          rfl
        rw [e] at this
        exact this
      · have q : kind = 1 := neq_use (a := kind) (b := 1) q
        subst q
        refine m_stretch hn' hw h ?_
        refine m_stretch hn' hw h ?_
        refine m_pace_e rfl (by omega) (sg_le hw.1 j) ?_
        rw [show inc D i 1 j = sg D j - pce 1 (sg D j) from rfl, ← pk_sub (by have := hw.2.2.2.2.2.2.2.1 j h; unfold pce sg at *; simp; omega)] at this
        exact this
      · have q : kind = 2 := neq_use (a := kind) (b := 2) q
        subst q
        refine ix_i (7 * i + j) (by simp only [pk_mul, nI_add]) (show _ < 28 by omega) ?_
        have e61 := (hO.2 i hi j (by omega)).2
        rw [show inc D i 2 j = b1 (cal D (D 1) (kds D) j (cmv D (D 1) (kds D) j) i) from rfl] at this
        refine And.intro (fun q => ?_) (fun q => ?_)
        · rw [e61] at q
          rw [b1_f (b1_0 q)] at this
          exact this
        · rw [e61] at q
          rw [b1_t (b1_1 q)] at this
          exact this
      · have q : kind = 3 := neq_use (a := kind) (b := 3) q
        subst q
        refine m_goes_e rfl hn' hb (by omega) (by omega) ?_
        refine m_bits rfl (Nat.lt_of_lt_of_le (bs_lt _ _) (Nat.pow_le_pow_right (by omega) hb5)) ?_
        exact this
      · have q : kind = 4 := neq_use (a := kind) (b := 4) q
        subst q
        rw [show inc D i 4 j = b1 (ck D j) from rfl] at this
        refine m_isCheck hn' hb (by omega) (fun q => ?_) (fun q => ?_)
        · rw [b1_t q] at this
          exact this
        · rw [b1_f q] at this
          exact this
  exact key 0 (Nat.zero_le _)
end Mark
