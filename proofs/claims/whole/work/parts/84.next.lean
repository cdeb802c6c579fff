/-! ===== ways: the class's findNext ===== -/
def CF (B : Nat → Nat) (M : ab_M) (N : Nat) (w : Nat → Nat) : Prop := crC M 4 (trD B w N) ∧ ∀ k, k + 1 < N → M.1 44 0 k = nI (w (k + 1) + 1)
def CW (B : Nat → Nat) (M : ab_M) (n : Nat) (w : Nat → Nat) (t : Nat) : Prop := CF B M n w ∧ (0 < n → M.1 44 0 (n - 1) = nI t)
def frN (M M' : ab_M) : Prop := M'.2 = M.2 ∧ ∀ g i k, g ≠ 44 → ¬ (g = 15 ∧ i = 4) → ¬ (g = 14 ∧ i = 4 ∧ k = 1) → M'.1 g i k = M.1 g i k
theorem frN_refl {M : ab_M} : frN M M := ⟨rfl, fun _ _ _ _ _ _ => rfl⟩
theorem frN_trans {M M' M'' : ab_M} (h : frN M M') (h2 : frN M' M'') : frN M M'' := ⟨h2.1.trans h.1, fun g i k a b c => (h2.2 g i k a b c).trans (h.2 g i k a b c)⟩
theorem frN_A {M M' : ab_M} (h : frN M M') : frA M M' := ⟨fun g i k q => h.2 g i k (fun w => q (by unfold scr; omega)) (fun w => q (by unfold scr; omega)) (fun w => q (by unfold scr; omega)), fun g i k _ _ => by rw [h.1], fun g i k _ _ => by rw [h.1]⟩
theorem frN_sI {M M' : ab_M} {g i k : Nat} {v : Int32} (h : frN M M') (hs : g = 44 ∨ (g = 15 ∧ i = 4) ∨ (g = 14 ∧ i = 4 ∧ k = 1)) : frN M (ab_sI M' g i k v) :=
  ⟨h.1, fun a b c q1 q2 q3 => by rw [sI_ne (fun w => by omega)]; exact h.2 a b c q1 q2 q3⟩
/-- a step back -/
theorem CF_pop {B w : Nat → Nat} {M : ab_M} {n : Nat} (h : CF B M n w) (hn : 0 < n) (hn8 : n ≤ 7) : CW B (ab_sI M 14 4 1 (M.1 14 4 1 - nI 1)) (n - 1) w (w (n - 1) + 1) := by
  obtain ⟨⟨c1, c2, c3, c4, c5, c6⟩, h2⟩ := h
  have e1 : M.1 14 4 1 - nI 1 = nI (n - 1) := by rw [c2, trD_4, pk_sub (by omega)]
  refine ⟨⟨⟨?_, ?_, ?_, ?_, fun k hk => ?_, fun e he => absurd he (by rw [trD_5]; omega)⟩, fun k hk => h2 k (by omega)⟩, fun hp => ?_⟩
  · rw [trD_o (by omega) (by omega) (by omega)] at c1 ⊢
    exact c1
  · rw [sI_eq, e1, trD_4]
  · rw [trD_5] at c3 ⊢
    exact c3
  · rw [trD_o (by omega) (by omega) (by omega)] at c4 ⊢
    exact c4
  · rw [trD_4] at hk
    rw [trD_t hk]
    have := c5 k (by rw [trD_4]; omega)
    rw [trD_t (by omega)] at this
    exact this
  · have := h2 (n - 1 - 1) (by omega)
    rw [show n - 1 - 1 + 1 = n - 1 by omega] at this
    exact this
/-- a step on -/
def psM (M : ab_M) (n p : Nat) : ab_M := ab_sI (ab_sI (ab_sI (ab_sI M 44 0 (n - 1) (nI (p + 1))) 15 4 n (nI p)) 44 0 n (nI 0)) 14 4 1 (nI (n + 1))
theorem CF_psh {B w : Nat → Nat} {M : ab_M} {n p : Nat} (h : CF B M n w) (hn : 0 < n) (hn7 : n < 7) : CW B (psM M n p) (n + 1) (wst w n p) 0 := by
  obtain ⟨⟨c1, c2, c3, c4, c5, c6⟩, h2⟩ := h
  refine ⟨⟨⟨?_, ?_, ?_, ?_, fun k hk => ?_, fun e he => absurd he (by rw [trD_5]; omega)⟩, fun k hk => ?_⟩, fun hp => ?_⟩
  · rw [trD_o (by omega) (by omega) (by omega)] at c1 ⊢
    exact c1
  · rw [trD_4]; exact sI_eq
  · rw [trD_5] at c3 ⊢
    exact c3
  · rw [trD_o (by omega) (by omega) (by omega)] at c4 ⊢
    exact c4
  · rw [trD_4] at hk
    rw [trD_t hk]
    show (ab_sI (ab_sI M 44 0 (n - 1) (nI (p + 1))) 15 4 n (nI p)).1 15 4 k = _
    by_cases e : k = n
    · subst e; rw [sI_eq, wst_n]
    · rw [sI_k e, wst_o e]
      have := c5 k (by rw [trD_4]; omega)
      rw [trD_t (by omega)] at this
      exact this
  · show (ab_sI (ab_sI (ab_sI M 44 0 (n - 1) (nI (p + 1))) 15 4 n (nI p)) 44 0 n (nI 0)).1 44 0 k = _
    rw [sI_k (by omega)]
    show (ab_sI M 44 0 (n - 1) (nI (p + 1))).1 44 0 k = _
    by_cases e : k = n - 1
    · subst e; rw [sI_eq, show n - 1 + 1 = n by omega, wst_n]
    · rw [sI_k e, wst_o (by omega)]
      exact h2 k (by omega)
  · show (ab_sI (ab_sI (ab_sI M 44 0 (n - 1) (nI (p + 1))) 15 4 n (nI p)) 44 0 n (nI 0)).1 44 0 (n + 1 - 1) = _
    rw [show n + 1 - 1 = n by omega, sI_eq]
theorem frN_ps {M M' : ab_M} {n p : Nat} (h : frN M M') : frN M (psM M' n p) := frN_sI (frN_sI (frN_sI (frN_sI h (by omega)) (by omega)) (by omega)) (by omega)
theorem bnd_w {B w : Nat → Nat} {n : Nat} (hw : wf B) (hn7 : n ≤ 7) (h : ∀ k, k < n → w k < B 0) : bnd (trD B w n) := by
  have hb := bnd_of hw
  have w0 := hw.1.1
  refine ⟨by rw [trD_o (by omega) (by omega) (by omega)]; exact hb.1, by rw [trD_4]; exact hn7, by rw [trD_5]; omega, by rw [trD_o (by omega) (by omega) (by omega)]; exact hb.2.2.2.1, fun k hk => ?_, fun e he => absurd he (by rw [trD_5]; omega)⟩
  rw [trD_4] at hk
  rw [trD_t hk]
  have := h k hk
  omega
section Next
variable {d : Nat} {M : ab_M} {K : ab_K} {B : Nat → Nat}
theorem c_hasPath_e {x y : Nat} {u v : Int32} (hu : u = nI x) (hv : v = nI y) (hl : ldC M 0 B) (hL : wfL B) (hx : x < 7) (hy : y < 7) (h1 : 0 < pm B x y → K (some (.inl 1)) M) (h0 : pm B x y = 0 → K (some (.inl 0)) M) : ab_Call d 52 [vr 9 0, vi u, vi v] M K := by
  subst hu
  subst hv
  rcases Nat.eq_zero_or_pos (pm B x y) with q | q
  · exact c_hasPath0 hl hx hy q (h0 q)
  · exact c_hasPath1 hl hL hx hy q (h1 q)
theorem c_nextPlace {n t p : Nat} {w : Nat → Nat} (hl : ldC M 0 B) (hw : wf B) (hC : CW B M n w t) (hv : vld B n w) (hn : 0 < n) (hp : isnf B w n t p) (h1 : p < B 0 → K (some (vi (nI p))) M) (h0 : p = B 0 → K (some (vi (-9))) M) : ab_Call (d + 1) 100 [vr 43 0] M K := by
  refine ab_Call_nr (caX8_nextPlace rfl (atX8_nextPlace ?_))
  obtain ⟨p1, p2, p3, p4⟩ := hp
  have w0 := hw.1.1
  have hvn := (vld_n hv).resolve_right (by omega)
  have hb := bnd_w (w := w) (n := n) hw (by omega) (fun k hk => by have := hv.2.1 k hk; omega)
  obtain ⟨⟨hc, h44⟩, h44n⟩ := hC
  have e1 : M.1 14 4 1 = nI n := hc.2.1
  have e15 : M.1 15 4 (n - 1) = nI (w (n - 1)) := by have := hc.2.2.2.2.1 (n - 1) (by rw [trD_4]; omega); rw [trD_t (by omega)] at this; exact this
  have hwn := hv.2.1 (n - 1) (by omega)
  have e9 : M.1 9 0 0 = nI (B 0) := hl.1
  have key : ∀ q, q ≤ p → t ≤ q → ab_At miX8_nextPlace (d + 1) 29 [some (vr 43 0), some (vi (M.1 15 4 (n - 1))), some (vi (nI q))] [] M (fun r M => K (r.map ab_nr) M) := by
    refine up_ind fun q hq ih htq => ?_
    refine atX8_nextPlace ?_
    have skip : q < p → ab_At miX8_nextPlace (d + 1) 29 [some (vr 43 0), some (vi (M.1 15 4 (n - 1))), some (vi (nI q + nI 1))] [] M (fun r M => K (r.map ab_nr) M) := by
      intro h
      have := ih h (by omega)
      rw [← nI_1 q] at this
      exact this
    refine And.intro (fun x => ?_) (fun x => ?_)
    · rw [e9] at x
      have x := nle_use x
      exact h0 (by omega)
    · rw [e9] at x
      have x := nlt_use x
      refine And.intro (fun y => absurd y (by rw [e1]; exact fun z => by have := nle_use (a := 7) z; omega)) (fun _ => ?_)
      refine c_hasPath_e e15 rfl hl hw.1 (by omega) (by omega) (fun z => ?_) (fun z => ?_)
      · refine c_indexOf hc hb (by omega) (fun k k1 k2 k3 => ?_) (fun k1 => ?_)
        · rw [trD_4] at k1
          rw [trD_t k1] at k2
          refine And.intro (fun _ => ?_) (fun y => absurd y (n9 (by omega)))
          refine skip ?_
          rcases Nat.lt_or_ge q p with y | y
          · exact y
          · have : q = p := by omega
            subst this
            exact absurd k2 ((fre_use (p3 (by omega))).2 k k1)
        · have : q = p := by
            rcases Nat.lt_or_ge q p with y | y
            · have := p4 q htq y
              have hu : usd w n q = false := usd_f.mpr (fun k hk => by have := k1 k (by rw [trD_4]; exact hk); rw [trD_t hk] at this; exact this)
              unfold fre at this
              rw [decide_eq_true z, hu] at this
              exact absurd this (by decide)
            · omega
          subst this
          exact h1 (by omega)
      · refine skip ?_
        rcases Nat.lt_or_ge q p with y | y
        · exact y
        · have : q = p := by omega
          subst this
          have := (fre_use (p3 (by omega))).1
          omega
  refine c_last hc (by rw [trD_4]; exact hn) ?_
  refine ix_i (n - 1) (by rw [trD_4]) (show _ < 7 by omega) ?_
  refine c_last hc (by rw [trD_4]; exact hn) ?_
  refine ix_i (n - 1) (by rw [trD_4]) (show _ < 7 by omega) ?_
  have := key t p1 (Nat.le_refl _)
  rw [← h44n hn] at this
  exact this
theorem c_findLoop (hl : ldC M 0 B) (hw : wf B) (h2 : 2 ≤ B 0) {r : Option (Nat × (Nat → Nat))} (h1 : ∀ M' x, r = some x → frN M M' → CF B M' x.1 x.2 → K (some (.inl 1)) M') (h0 : ∀ M', r = none → frN M M' → K (some (.inl 0)) M') : ∀ k n w t st M3, Run B k n w t r → vld B n w → st + k < 100000 → frN M M3 → CW B M3 n w t → ab_At miX8_findNext (d + 2) 25 [some (vr 43 0), some (vi (nI st))] [] M3 K := by
  intro k
  induction k with
  | zero =>
    intro n w t st M3 hr hv hst f3 hC
    obtain ⟨hn, hr⟩ := hr
    subst hn
    refine atX8_findNext ?_
    refine And.intro (fun q => absurd (nle_use (a := 100000) q) (by omega)) (fun _ => ?_)
    have e1 : M3.1 14 4 1 = nI 0 := hC.1.1.2.1
    refine And.intro (fun _ => ?_) (fun q => absurd q (by rw [e1]; decide))
    exact h0 M3 hr f3
  | succ k ih =>
    intro n w t st M3 hr hv hst f3 hC
    obtain ⟨hn, p, hp, hr⟩ := hr
    have w0 := hw.1.1
    have hvn := (vld_n hv).resolve_right (by omega)
    have e1 : M3.1 14 4 1 = nI n := hC.1.1.2.1
    have hl3 := frA_ld (frN_A f3) hl
    refine atX8_findNext ?_
    refine And.intro (fun q => absurd (nle_use (a := 100000) q) (by omega)) (fun _ => ?_)
    refine And.intro (fun q => absurd q (by rw [e1]; exact fun z => by have := nle_use (b := 0) z; omega)) (fun _ => ?_)
    have hpl := hp.1
    have goon : ∀ n' w' t' M4, Run B k n' w' t' r → vld B n' w' → frN M M4 → CW B M4 n' w' t' → ab_At miX8_findNext (d + 2) 25 [some (vr 43 0), some (vi (nI st + nI 1))] [] M4 K := by
      intro n' w' t' M4 a b c e
      have := ih n' w' t' (st + 1) M4 a b (by omega) c e
      rw [← nI_1 st] at this
      exact this
    refine c_nextPlace hl3 hw hC hv hn hp (fun q => ?_) (fun q => ?_)
    · refine And.intro (fun _ => ?_) (fun q2 => absurd q2 (n9 (by omega)))
      refine c_last hC.1.1 (by rw [trD_4]; exact hn) ?_
      refine ix_i (n - 1) (by rw [trD_4]) (show _ < 7 by omega) ?_
      have hfr := hp.2.2.1 q
      have hps : ab_sI (ab_sI (ab_sI (ab_sI M3 44 0 (n - 1) (nI p + nI 1)) 15 4 n (nI p)) 44 0 n (nI 0)) 14 4 1 (M3.1 14 4 1 + nI 1) = psM M3 n p := by
        unfold psM
        rw [e1, nI_add, nI_add]
      refine ix_i n e1 (show _ < 7 by omega) ?_
      refine ix_i n e1 (show _ < 7 by omega) ?_
      have hCp := CF_psh (p := p) hC.1 hn (by omega)
      have e9 : M3.1 9 0 0 - nI 1 = nI (B 0 - 1) := by rw [hl3.1, pk_sub (by omega)]
      rw [← hps] at hCp
      have hfp := frN_ps (n := n) (p := p) f3
      rw [← hps] at hfp
      refine caX3_inn rfl (atX3_inn ?_)
      refine And.intro (fun z => ?_) (fun z => ?_)
      · have z : ¬ nI p = nI (B 0 - 1) := by rw [← e9]; exact z
        have z := nne_use z
        rcases hr with ⟨a, b⟩ | ⟨a, b⟩ | ⟨a, b⟩
        · omega
        · omega
        · exact goon (n + 1) (wst w n p) 0 _ b (vld_psh hv hn hfr a) hfp hCp
      · have z : nI p = nI (B 0 - 1) := by rw [← e9]; exact z
        have z := neq_use z
        rcases hr with ⟨a, b⟩ | ⟨a, b⟩ | ⟨a, b⟩
        · omega
        · exact h1 _ (n + 1, wst w n p) b hfp hCp.1
        · omega
    · refine And.intro (fun q2 => absurd rfl q2) (fun _ => ?_)
      rcases hr with ⟨a, b⟩ | ⟨a, b⟩ | ⟨a, b⟩
      · exact goon (n - 1) w (w (n - 1) + 1) _ b (vld_pop hv) (frN_sI f3 (by omega)) (CF_pop hC.1 hn (by omega))
      · omega
      · omega
/-- before the next one is looked for -/
def EN (B : Nat → Nat) (M : ab_M) (n : Nat) (w : Nat → Nat) (t : Nat) : Prop := (n = 1 ∧ CW B M 1 w t) ∨ (trl B (n + 1) w ∧ CF B M (n + 1) w ∧ t = B 0)
theorem EN_fr {M M' : ab_M} {n t : Nat} {w : Nat → Nat} (h : EN B M n w t) (f4 : ∀ g i, 14 ≤ g → g ≤ 18 → i = 4 → M'.1 g i = M.1 g i) (f44 : M'.1 44 0 = M.1 44 0) : EN B M' n w t := by
  have hF : ∀ {N}, CF B M N w → CF B M' N w := fun h => ⟨crC_fr ⟨f4 14 4 (by omega) (by omega) rfl, f4 15 4 (by omega) (by omega) rfl, f4 16 4 (by omega) (by omega) rfl, f4 17 4 (by omega) (by omega) rfl, f4 18 4 (by omega) (by omega) rfl⟩ h.1, fun k hk => by rw [f44]; exact h.2 k hk⟩
  rcases h with ⟨a, b, c⟩ | ⟨a, b, c⟩
  · exact Or.inl ⟨a, hF b, fun z => by rw [f44]; exact c z⟩
  · exact Or.inr ⟨a, hF b, c⟩
theorem c_findNext {n t k : Nat} {w : Nat → Nat} {r : Option (Nat × (Nat → Nat))} (hl : ldC M 0 B) (hw : wf B) (h2 : 2 ≤ B 0) (hE : EN B M n w t) (hv : vld B n w) (hr : Run B k n w t r) (hk : k < 90000) (h1 : ∀ M' x, r = some x → frN M M' → CF B M' x.1 x.2 → K (some (.inl 1)) M') (h0 : ∀ M', r = none → frN M M' → K (some (.inl 0)) M') : ab_Call (d + 2) 99 [vr 43 0] M K := by
  refine caX8_findNext rfl (atX8_findNext ?_)
  have w0 := hw.1.1
  rcases hE with ⟨rfl, hC⟩ | ⟨a, b, c⟩
  · refine c_last hC.1.1 (by rw [trD_4]; omega) ?_
    rw [trD_4]
    refine And.intro (fun _ => ?_) (fun q => absurd q (by decide))
    exact c_findLoop hl hw h2 h1 h0 k 1 w t 0 M hr hv (by omega) frN_refl hC
  · refine c_last b.1 (by rw [trD_4]; omega) ?_
    rw [trD_4]
    have hn := a.1
    have hn2 := a.2.1
    refine And.intro (fun q => absurd (nle_use (b := 0) q) (by omega)) (fun _ => ?_)
    have := CF_pop b (by omega) (by omega)
    rw [show w (n + 1 - 1) + 1 = t by rw [c]; exact a.2.2.2.2.1, show n + 1 - 1 = n by omega] at this
    exact c_findLoop hl hw h2 h1 h0 k n w t 0 _ hr hv (by omega) (frN_sI frN_refl (by omega)) this
end Next
