/-! ===== a country's text: the class's reader ===== -/
def rdB (t n : Nat) (M : ab_M) : Prop := M.2.2 13 0 2 = t ∧ M.1 13 0 3 = nI n
def pM (M : ab_M) (p : Nat) : ab_M := ab_sI M 13 0 4 (nI p)
theorem sI_ov (M : ab_M) (g i k : Nat) (a b : Int32) : ab_sI (ab_sI M g i k a) g i k b = ab_sI M g i k b := by
  unfold ab_sI
  refine Prod.ext ?_ rfl
  funext x y z
  show (if x = g ∧ y = i ∧ z = k then b else if x = g ∧ y = i ∧ z = k then a else M.1 x y z) = if x = g ∧ y = i ∧ z = k then b else M.1 x y z
  split <;> rfl
theorem pM_up (M : ab_M) (p : Nat) : ab_sI (pM M p) 13 0 4 ((pM M p).1 13 0 4 + nI 1) = pM M (p + 1) := by
  unfold pM
  rw [sI_ov, sI_eq, nI_add]
theorem pM_dn (M : ab_M) {p : Nat} (h : 0 < p) : ab_sI (pM M p) 13 0 4 ((pM M p).1 13 0 4 - nI 1) = pM M (p - 1) := by
  unfold pM
  rw [sI_ov, sI_eq, pk_sub (by omega)]
/-- what reading changes -/
def rfr (M M' : ab_M) : Prop := M'.2 = M.2 ∧ ∀ g i k, ¬ ((g = 13 ∧ i = 0 ∧ (k = 1 ∨ k = 4)) ∨ ((g = 9 ∨ g = 10) ∧ i = 1) ∨ (g = 12 ∧ 7 ≤ i)) → M'.1 g i k = M.1 g i k
theorem rfr_refl {M : ab_M} : rfr M M := ⟨rfl, fun _ _ _ _ => rfl⟩
theorem rfr_trans {M M' M'' : ab_M} (h : rfr M M') (h2 : rfr M' M'') : rfr M M'' := ⟨h2.1.trans h.1, fun g i k q => (h2.2 g i k q).trans (h.2 g i k q)⟩
theorem rfr_sI {M M' : ab_M} {g i k : Nat} {v : Int32} (h : rfr M M') (hs : (g = 13 ∧ i = 0 ∧ (k = 1 ∨ k = 4)) ∨ ((g = 9 ∨ g = 10) ∧ i = 1) ∨ (g = 12 ∧ 7 ≤ i)) : rfr M (ab_sI M' g i k v) :=
  ⟨h.1, fun a b c q => by rw [sI_ne (fun w => q (by rw [w.1, w.2.1, w.2.2]; exact hs))]; exact h.2 a b c q⟩
theorem rfr_p {M M' : ab_M} {p : Nat} (h : rfr M M') : rfr M (pM M' p) := rfr_sI h (Or.inl ⟨rfl, rfl, Or.inr rfl⟩)
theorem rfr_B {M M' : ab_M} {t n : Nat} (h : rfr M M') (hB : rdB t n M) : rdB t n M' := ⟨by rw [h.1]; exact hB.1, by rw [h.2 13 0 3 (by omega)]; exact hB.2⟩
theorem rfr_7 {M M' : ab_M} {t : Nat} (h : rfr M M') : M'.1 7 t = M.1 7 t := by
  funext k
  exact h.2 7 t k (by omega)
section Reader
variable {d t n : Nat} {M : ab_M} {K : ab_K} {D : Nat → Nat}
theorem c_sign {p : Nat} (hB : rdB t n M) (ht : t < 4) (hn : n ≤ 80) (hp : p < 1000) (h1 : p < n → K (some (vi (M.1 7 t p))) (pM M p)) (h0 : n ≤ p → K (some (vi (nI 0))) (pM M p)) : ab_Call d 76 [vr 13 0] (pM M p) K := by
  obtain ⟨s2, s3⟩ := hB
  have s3' : (pM M p).1 13 0 3 = nI n := s3
  have s4 : (pM M p).1 13 0 4 = nI p := sI_eq
  refine ab_Call_nr (caX6_sign rfl (atX6_sign ?_))
  refine And.intro (fun q => ?_) (fun q => ?_)
  · rw [s3', s4] at q
    exact h0 (nle_use q)
  · rw [s3', s4] at q
    have q := nlt_use q
    refine ix_i p s4 (show p < if M.2.2 13 0 2 = 4 then 0 else 80 by rw [s2, if_neg (by omega)]; omega) ?_
    have := h1 q
    rw [← s2] at this
    exact this
theorem c_skip {p : Nat} (hB : rdB t n M) (ht : t < 4) (hn : n ≤ 80) (hp : p < 1000) (hK : ∀ p', p ≤ p' → (p' ≤ n ∨ p' = p) → (∀ D b, P (M.1 7 t) n D p b = P (M.1 7 t) n D p' b) → (p' < n → ¬ M.1 7 t p' = nI 32) → K none (pM M p')) : ab_Call d 75 [vr 13 0] (pM M p) K := by
  obtain ⟨s2, s3⟩ := hB
  have key : ∀ r p', p' + r = max n p → p ≤ p' → (p' ≤ n ∨ p' = p) → (∀ D b, P (M.1 7 t) n D p b = P (M.1 7 t) n D p' b) → ab_At miX6_skipBlanks d 0 [some (vr 13 0)] [] (pM M p') K := by
    intro r
    induction r with
    | zero =>
      intro p' h1 h2 h3 h4
      refine atX6_skipBlanks ?_
      have s3' : (pM M p').1 13 0 3 = nI n := s3
      have s4 : (pM M p').1 13 0 4 = nI p' := sI_eq
      refine And.intro (fun _ => hK p' h2 h3 h4 (fun q => by omega)) (fun q => ?_)
      rw [s3', s4] at q
      have := nlt_use q
      omega
    | succ r ih =>
      intro p' h1 h2 h3 h4
      refine atX6_skipBlanks ?_
      have s3' : (pM M p').1 13 0 3 = nI n := s3
      have s4 : (pM M p').1 13 0 4 = nI p' := sI_eq
      refine And.intro (fun q => ?_) (fun q => ?_)
      · rw [s3', s4] at q
        have := nle_use q
        exact hK p' h2 h3 h4 (fun q => by omega)
      · rw [s3', s4] at q
        have q := nlt_use q
        refine ix_i p' s4 (show p' < if M.2.2 13 0 2 = 4 then 0 else 80 by rw [s2, if_neg (by omega)]; omega) ?_
        refine And.intro (fun w => ?_) (fun w => ?_)
        · have w : ¬ M.1 7 (M.2.2 13 0 2) p' = nI 32 := w
          rw [s2] at w
          exact hK p' h2 h3 h4 (fun _ => w)
        · have w : M.1 7 (M.2.2 13 0 2) p' = nI 32 := w
          rw [s2] at w
          have := ih (p' + 1) (by omega) (by omega) (Or.inl (by omega)) (fun D b => by rw [h4 D b, P_blank q w])
          rw [← pM_up] at this
          exact this
  refine caX6_skipBlanks rfl ?_
  exact key (max n p - p) p (by omega) (Nat.le_refl _) (Or.inr rfl) (fun _ _ => rfl)
theorem c_readFigure {p lo hi : Nat} {u v : Int32} (hu : u = nI lo) (hv : v = nI hi) (hB : rdB t n M) (ht : t < 4) (hn : n ≤ 80) (hp : p < 1000) (hlo : lo < 1000) (hhi : hi < 1000) (h1 : ∀ f, fig (M.1 7 t) n p lo hi = some f → K (some (vi (nI f))) (pM M (p + 1))) (h0 : fig (M.1 7 t) n p lo hi = none → K (some (vi (-9))) (pM M p)) : ab_Call (d + 1) 77 [vr 13 0, vi u, vi v] (pM M p) K := by
  subst hu
  subst hv
  refine ab_Call_nr (caX6_readFigure rfl (atX6_readFigure ?_))
  refine c_sign hB ht hn hp (fun q => ?_) (fun q => ?_)
  · refine And.intro (fun w => ?_) (fun w => ?_)
    · refine h0 ?_
      unfold fig
      rw [Int32.lt_iff_toInt_lt, nI_toInt (by omega)] at w
      rw [if_neg (by omega)]
    · rw [Int32.le_iff_toInt_le, nI_toInt (by omega)] at w
      refine And.intro (fun w2 => ?_) (fun w2 => ?_)
      · rw [Int32.le_iff_toInt_le, nI_toInt (by omega)] at w2
        have hf : fig (M.1 7 t) n p lo hi = some (M.1 7 t p - nI 48).toInt.toNat := by
          unfold fig
          rw [if_pos ⟨q, w, w2⟩]
        have := h1 _ hf
        rw [← (fig_some hf).2.1, ← pM_up] at this
        exact this
      · refine h0 ?_
        unfold fig
        rw [Int32.lt_iff_toInt_lt, nI_toInt (by omega)] at w2
        rw [if_neg (by omega)]
  · have hnone : fig (M.1 7 t) n p lo hi = none := by unfold fig; rw [if_neg (by omega)]
    refine And.intro (fun _ => h0 hnone) (fun w => ?_)
    rw [Int32.le_iff_toInt_le, nI_toInt (by omega), pk_sub_toInt (by omega) (by omega)] at w
    omega
theorem c_ofLetter {x : Int32} (h1 : ∀ k, kdl x = some k → K (some (vi (nI k))) M) (h0 : kdl x = none → K (some (vi (-9))) M) : ab_Call d 43 [vi x] M K := by
  refine ab_Call_nr (caX2_ofLetter rfl (atX2_ofLetter ?_))
  refine And.intro (fun q => h0 ?_) ?_
  · have q : x.toInt < 97 ∨ 117 ≤ x.toInt := q
    have ne : ∀ k, 97 ≤ k → k ≤ 116 → ¬ x = nI k := fun k a b e => by rw [e, nI_toInt (by omega)] at q; omega
    unfold kdl
    rw [if_neg (ne 104 (by omega) (by omega)), if_neg (ne 113 (by omega) (by omega)), if_neg (ne 115 (by omega) (by omega)), if_neg (ne 97 (by omega) (by omega)), if_neg (ne 108 (by omega) (by omega)), if_neg (ne 116 (by omega) (by omega))]
  · exact (And.intro (fun q => h1 3 (by have q : x = nI 97 := q; rw [q]; decide)) (And.intro (fun q => h0 (by have q : x = nI 98 := q; rw [q]; decide)) (And.intro (fun q => h0 (by have q : x = nI 99 := q; rw [q]; decide)) (And.intro (fun q => h0 (by have q : x = nI 100 := q; rw [q]; decide)) (And.intro (fun q => h0 (by have q : x = nI 101 := q; rw [q]; decide)) (And.intro (fun q => h0 (by have q : x = nI 102 := q; rw [q]; decide)) (And.intro (fun q => h0 (by have q : x = nI 103 := q; rw [q]; decide)) (And.intro (fun q => h1 0 (by have q : x = nI 104 := q; rw [q]; decide)) (And.intro (fun q => h0 (by have q : x = nI 105 := q; rw [q]; decide)) (And.intro (fun q => h0 (by have q : x = nI 106 := q; rw [q]; decide)) (And.intro (fun q => h0 (by have q : x = nI 107 := q; rw [q]; decide)) (And.intro (fun q => h1 4 (by have q : x = nI 108 := q; rw [q]; decide)) (And.intro (fun q => h0 (by have q : x = nI 109 := q; rw [q]; decide)) (And.intro (fun q => h0 (by have q : x = nI 110 := q; rw [q]; decide)) (And.intro (fun q => h0 (by have q : x = nI 111 := q; rw [q]; decide)) (And.intro (fun q => h0 (by have q : x = nI 112 := q; rw [q]; decide)) (And.intro (fun q => h1 1 (by have q : x = nI 113 := q; rw [q]; decide)) (And.intro (fun q => h0 (by have q : x = nI 114 := q; rw [q]; decide)) (And.intro (fun q => h1 2 (by have q : x = nI 115 := q; rw [q]; decide)) (And.intro (fun q => h1 5 (by have q : x = nI 116 := q; rw [q]; decide)) trivial))))))))))))))))))))
theorem c_clear (hK : ∀ M', rfr M M' → M'.1 13 = M.1 13 → ldC M' 1 (fun _ => 0) → K none M') : ab_Call d 47 [vr 9 1] M K := by
  refine caX3_clear rfl (atX3_clear ?_)
  have out : ∀ x, x ≤ 7 → ∀ M3 : ab_M, rfr M M3 → M3.1 13 = M.1 13 → (∀ k, k < 3 → M3.1 9 1 k = nI 0) → (∀ u, u < x → ∀ v, v < 7 → M3.1 12 (7 * 1 + u) v = nI 0) → ab_At miX3_clear d 17 [some (vr 9 1), some (vi (nI x))] [] M3 K := by
    refine up_ind fun x hx ih M3 f3 g3 h9 h12 => ?_
    refine atX3_clear ?_
    refine And.intro (fun q => ?_) (fun q => ?_)
    · have : x = 7 := by have := nle_use (a := 7) q; omega
      subst this
      exact hK M3 f3 g3 ⟨h9 0 (by omega), h9 1 (by omega), h9 2 (by omega), fun i hi => absurd hi (by show ¬ i < 0; omega), fun u hu v hv => h12 u hu v hv⟩
    · have hxn := nlt_use (b := 7) q
      have inn : ∀ y, y ≤ 7 → ∀ M3 : ab_M, rfr M M3 → M3.1 13 = M.1 13 → (∀ k, k < 3 → M3.1 9 1 k = nI 0) → (∀ u, u < x → ∀ v, v < 7 → M3.1 12 (7 * 1 + u) v = nI 0) → (∀ v, v < y → M3.1 12 (7 * 1 + x) v = nI 0) → ab_At miX3_clear d 25 [some (vr 9 1), some (vi (nI x)), some (vi (nI y))] [] M3 K := by
        refine up_ind fun y hy ih2 M3 f3 g3 h9 h12 h12x => ?_
        refine atX3_clear ?_
        refine And.intro (fun q => ?_) (fun q => ?_)
        · have : y = 7 := by have := nle_use (a := 7) q; omega
          subst this
          have := ih hxn M3 f3 g3 h9 (fun u hu v hv => by
            by_cases e : u = x
            · subst e; exact h12x v hv
            · exact h12 u (by omega) v hv)
          rw [← nI_1 x] at this
          exact this
        · have hyn := nlt_use (b := 7) q
          refine ix_i x rfl (show x < 7 by omega) ?_
          refine ix_i y rfl (show y < 7 by omega) ?_
          have := ih2 hyn (ab_sI M3 12 (7 * 1 + x) y (nI 0)) (rfr_sI f3 (Or.inr (Or.inr ⟨rfl, by omega⟩))) g3 h9 (fun u hu v hv => by rw [sI_ne (by omega)]; exact h12 u hu v hv) (fun v hv => by
            by_cases e : v = y
            · subst e; exact sI_eq
            · rw [sI_k e]; exact h12x v (by omega))
          rw [← nI_1 y] at this
          exact this
      exact inn 0 (Nat.zero_le _) M3 f3 g3 h9 h12 (fun v hv => absurd hv (by omega))
  refine out 0 (Nat.zero_le _) _ (rfr_sI (rfr_sI (rfr_sI rfr_refl (Or.inr (Or.inl ⟨Or.inl rfl, rfl⟩))) (Or.inr (Or.inl ⟨Or.inl rfl, rfl⟩))) (Or.inr (Or.inl ⟨Or.inl rfl, rfl⟩))) rfl (fun k hk => ?_) (fun u hu => absurd hu (by omega))
  have : k = 0 ∨ k = 1 ∨ k = 2 := by omega
  rcases this with rfl | rfl | rfl <;> rfl
end Reader
