/-! ===== the class's chase: a check ===== -/
section Leave
variable {d : Nat} {M : ab_M} {K : ab_K} {D : Nat → Nat}
theorem c_tryEnds {i k kd : Nat} {v : Int32} (hv : v = nI i) (hi : i < 4) (hk : k + 1 < D 4) (h4 : D 4 ≤ 7) (hkd : kd ≤ 5) (e22 : M.1 22 0 i = nI kd) (hs : svP D M k (D 5)) (h1 : kd = 4 → K (some (vi (nI 1))) M) (h0 : kd ≠ 4 → K (some (vi (nI (los D (kd == 3) k (D 5))))) (ab_sI M 37 0 i (M.1 37 0 i ||| nI (bs (cnd D (kd == 3) k) (D 5))))) : ab_Call d 11 [vr 21 0, vi v, vi (nI k)] M K := by
  subst hv
  refine ab_Call_nr (caX0_tryEnds rfl (atX0_tryEnds ?_))
  obtain ⟨-, s6, s7, s8, s9⟩ := hs.1 hk
  refine ix_i i rfl hi ?_
  refine And.intro (fun q => ?_) (fun q => ?_)
  · rw [e22] at q
    have q := nne_use q
    have h0 := h0 q
    refine ix_i i rfl hi ?_
    refine And.intro (fun q2 => ?_) (fun q2 => ?_)
    · rw [e22] at q2
      have q2 := nne_use q2
      rw [show (kd == 3) = false by simp; exact q2, ← s6, ← s7] at h0
      refine ix_i i rfl hi ?_
      refine ix_i k rfl (show k < 7 by omega) ?_
      refine ix_i i rfl hi ?_
      refine ix_i k rfl (show k < 7 by omega) ?_
      exact h0
    · rw [e22] at q2
      have q2 := neq_use q2
      rw [show (kd == 3) = true by simp; exact q2, ← s8, ← s9] at h0
      refine ix_i i rfl hi ?_
      refine ix_i k rfl (show k < 7 by omega) ?_
      refine ix_i i rfl hi ?_
      refine ix_i k rfl (show k < 7 by omega) ?_
      exact h0
  · rw [e22] at q
    exact h1 (neq_use q)
/-- what a hound tries at a place -/
def tp (D : Nat → Nat) (H : Nat) (kd : Nat → Nat) (k : Nat) (c : Nat → Nat) (i e : Nat) : Bool := !cal D H kd k c i && decide (kd i ≠ 4) && cnd D (kd i == 3) k e
def lvO (D : Nat → Nat) (H : Nat) (kd : Nat → Nat) (k : Nat) (c L Hh T : Nat → Nat) (M : ab_M) (i : Nat) : Prop := M.1 34 i k = nI (lvv D H kd k c i) ∧ M.1 35 0 i = nI (L i + (if cal D H kd k c i then 0 else lo D (kd i) k)) ∧ M.1 36 0 i = nI (Hh i + b1 (cal D H kd k c i)) ∧ M.1 37 0 i = nI (T i ||| bs (tp D H kd k c i) (D 5))
theorem mn_eq {a b : Nat} (ha : a < 2 ^ 31) (hb : b < 2 ^ 31) : (if nI b < nI a then nI b else nI a) = nI (min a b) := by
  by_cases h : b < a
  · rw [if_pos ((nI_ltI hb ha).mpr h), Nat.min_eq_right (by omega)]
  · rw [if_neg (fun q => h (nlt_use q)), Nat.min_eq_left (by omega)]
theorem c_leaveCheck {H k : Nat} {kd c L Hh T : Nat → Nat} (hw : wf D) (hd : hdC M H kd) (hH : H ≤ 4) (hkd : ∀ i, i < H → kd i ≤ 5) (hk : k + 1 < D 4) (hck : ck D k = true) (hs : svP D M k (D 5)) (hc : ∀ i, i < H → M.1 32 i k = nI (c i)) (hcl : ∀ i, c i < 1000) (hL : ∀ i, i < H → M.1 35 0 i = nI (L i) ∧ M.1 36 0 i = nI (Hh i) ∧ M.1 37 0 i = nI (T i)) (hK : ∀ M', frS 34 38 M M' → (∀ i j, j ≠ k → M'.1 34 i j = M.1 34 i j) → (∀ i, i < H → lvO D H kd k c L Hh T M' i) → K none M') : ab_Call (d + 1) 10 [vr 21 0, vi (nI k)] M K := by
  refine caX0_leaveCheck rfl (atX0_leaveCheck ?_)
  have hb := bnd_of hw
  have h4 : D 4 ≤ 7 := hb.2.1
  refine c_sortAt hd.1 hH (by omega) hc hcl (fun M1 o hf1 ho ho2 => ?_)
  have key : ∀ n, n ≤ H → ∀ M' x, frS 34 37 M1 M' → (∀ i j, j ≠ k → M'.1 34 i j = M1.1 34 i j) → (∀ i, i < H → (∃ m, m < n ∧ o m = i) → lvO D H kd k c L Hh T M' i) → (∀ i, i < H → ¬ (∃ m, m < n ∧ o m = i) → M'.1 35 0 i = nI (L i) ∧ M'.1 36 0 i = nI (Hh i) ∧ M'.1 37 0 i = nI (T i)) → lsI D H kd k c (fun j => ∃ m, m < n ∧ o m = j) x → x ≤ 1000000 → ab_At miX0_leaveCheck (d + 1) 10 [some (vr 21 0), some (vi (nI k)), some (vi (nI x)), some (vi (nI n))] [] M' K := by
    refine up_ind fun n hn ih M' x hf hcol hdn hun hls hx => ?_
    refine atX0_leaveCheck ?_
    have hfa : frS 34 38 M M' := frS_trans (frS_mono hf1 (by omega) (by omega)) (frS_mono hf (by omega) (by omega))
    have hd' : hdC M' H kd := frS_hd hfa (by omega) hd
    have hs' : svP D M' k (D 5) := svP_fr hfa (by omega) hs
    refine And.intro (fun h => ?_) (fun h => ?_)
    · rw [hd'.1] at h
      have : n = H := by have := nle_use h; omega
      subst this
      exact hK M' hfa (fun i j q => (hcol i j q).trans (by rw [hf1.2 34 i (by omega)])) (fun i hi => hdn i hi (ho.2.1 i hi))
    · rw [hd'.1] at h
      have hnn := nlt_use h
      have hoH := ho.1 n hnn
      have eo : M'.1 38 0 n = nI (o n) := by rw [hf.2 38 0 (by omega)]; exact ho2 n hnn
      have hnot : ¬ ∃ m, m < n ∧ o m = o n := by
        rw [ord_bef ho hnn (o n) hoH, bef_iff]
        omega
      obtain ⟨u1, u2, u3⟩ := hun (o n) hoH hnot
      have ec : M'.1 32 (o n) k = nI (c (o n)) := by rw [hfa.2 32 _ (by omega)]; exact hc _ hoH
      have hcl1 := hcl (o n)
      have hlv := lvv_le hb (H := H) (kd := kd) (k := k) (c := c) (i := o n)
      have hcal := lsI_cal hls (i := o n) (by omega) (ord_bef ho hnn)
      have e23 : M'.1 23 0 (o n) = nI (b1 (slo (kd (o n)))) := (hd'.2 (o n) hoH).2
      have e22 : M'.1 22 0 (o n) = nI (kd (o n)) := (hd'.2 (o n) hoH).1
      have after : ∀ M'', frS 34 37 M1 M'' → (∀ i j, ¬ (i = o n ∧ j = k) → M''.1 34 i j = M'.1 34 i j) → (∀ i, i ≠ o n → M''.1 35 0 i = M'.1 35 0 i ∧ M''.1 36 0 i = M'.1 36 0 i ∧ M''.1 37 0 i = M'.1 37 0 i) → lvO D H kd k c L Hh T M'' (o n) → ∀ v : Int32, v = nI (min x (lvv D H kd k c (o n))) → ab_At miX0_leaveCheck (d + 1) 10 [some (vr 21 0), some (vi (nI k)), some (vi v), some (vi (nI n + nI 1))] [] M'' K := by
        intro M'' g1 g2 g3 g4 v hv
        subst hv
        have up : ∀ i, (∃ m, m < n + 1 ∧ o m = i) ↔ (∃ m, m < n ∧ o m = i) ∨ i = o n := by
          intro i
          constructor
          · rintro ⟨m, m1, m2⟩
            by_cases e : m = n
            · subst e; exact Or.inr m2.symm
            · exact Or.inl ⟨m, by omega, m2⟩
          · rintro (⟨m, m1, m2⟩ | q)
            · exact ⟨m, by omega, m2⟩
            · exact ⟨n, by omega, q.symm⟩
        have := ih hnn M'' (min x (lvv D H kd k c (o n))) g1 (fun i j q => (g2 i j (fun w => q w.2)).trans (hcol i j q)) (fun i hi q => by
          by_cases e : i = o n
          · subst e; exact g4
          · have := hdn i hi (((up i).mp q).resolve_right e)
            unfold lvO at *
            rw [g2 i k (fun w => e w.1), (g3 i e).1, (g3 i e).2.1, (g3 i e).2.2]
            exact this) (fun i hi q => by
          have e : i ≠ o n := fun w => q ((up i).mpr (Or.inr w))
          rw [(g3 i e).1, (g3 i e).2.1, (g3 i e).2.2]
          exact hun i hi (fun w => q ((up i).mpr (Or.inl w)))) (lsI_s hls hoH (fun j _ => up j)) (by omega)
        rw [← nI_1] at this
        exact this
      have fin : ∀ M2 m, (if cal D H kd k c (o n) then 0 else lo D (kd (o n)) k) = m → frS 36 37 M' M2 → (∀ i, i ≠ o n → M2.1 36 0 i = M'.1 36 0 i ∧ M2.1 37 0 i = M'.1 37 0 i) → M2.1 36 0 (o n) = nI (Hh (o n) + b1 (cal D H kd k c (o n))) → M2.1 37 0 (o n) = nI (T (o n) ||| bs (tp D H kd k c (o n)) (D 5)) → ab_At miX0_leaveCheck (d + 1) 10 [some (vr 21 0), some (vi (nI k)), some (vi (if (ab_sI (ab_sI M2 35 0 (o n) (M2.1 35 0 (o n) + nI m)) 34 (o n) k (M2.1 32 (o n) k + nI m)).1 34 (o n) k < nI x then (ab_sI (ab_sI M2 35 0 (o n) (M2.1 35 0 (o n) + nI m)) 34 (o n) k (M2.1 32 (o n) k + nI m)).1 34 (o n) k else nI x)), some (vi (nI n + nI 1))] [] (ab_sI (ab_sI M2 35 0 (o n) (M2.1 35 0 (o n) + nI m)) 34 (o n) k (M2.1 32 (o n) k + nI m)) K := by
        intro M2 m hm hf2 g3 g6 g7
        have el : lvv D H kd k c (o n) = c (o n) + m := by unfold lvv; rw [hm]
        have e5 : M2.1 35 0 (o n) = nI (L (o n)) := by rw [hf2.2 35 0 (by omega)]; exact u1
        have e2 : M2.1 32 (o n) k = nI (c (o n)) := by rw [hf2.2 32 _ (by omega)]; exact ec
        have e34 : (ab_sI (ab_sI M2 35 0 (o n) (M2.1 35 0 (o n) + nI m)) 34 (o n) k (M2.1 32 (o n) k + nI m)).1 34 (o n) k = nI (lvv D H kd k c (o n)) := by rw [sI_eq, e2, nI_add, el]
        refine after _ (frS_sI (frS_sI (frS_trans hf (frS_mono hf2 (by omega) (by omega))) (by omega) (by omega)) (by omega) (by omega)) (fun i j q => ?_) (fun i q => ?_) ⟨e34, ?_, ?_, ?_⟩ _ ?_
        · rw [sI_ne (fun w => q ⟨w.2.1, w.2.2⟩), sI_g (by omega), hf2.2 34 i (by omega)]
        · have g3 := g3 i q
          refine ⟨?_, ?_, ?_⟩
          · rw [sI_g (by omega), sI_k q, hf2.2 35 0 (by omega)]
          · rw [sI_g (by omega), sI_g (by omega)]; exact g3.1
          · rw [sI_g (by omega), sI_g (by omega)]; exact g3.2
        · rw [sI_g (by omega), sI_eq, e5, nI_add, hm]
        · rw [sI_g (by omega), sI_g (by omega)]; exact g6
        · rw [sI_g (by omega), sI_g (by omega)]; exact g7
        · rw [e34, mn_eq (by omega) (by omega)]
      have un : cal D H kd k c (o n) = false → kd (o n) ≠ 4 → ∀ M2, M2 = ab_sI M' 37 0 (o n) (M'.1 37 0 (o n) ||| nI (bs (cnd D (kd (o n) == 3) k) (D 5))) → frS 36 37 M' M2 ∧ (∀ i, i ≠ o n → M2.1 36 0 i = M'.1 36 0 i ∧ M2.1 37 0 i = M'.1 37 0 i) ∧ M2.1 36 0 (o n) = nI (Hh (o n) + b1 (cal D H kd k c (o n))) ∧ M2.1 37 0 (o n) = nI (T (o n) ||| bs (tp D H kd k c (o n)) (D 5)) := by
        intro hcf q4 M2 hM2
        subst hM2
        refine ⟨frS_sI frS_refl (by omega) (by omega), fun i q => ⟨by rw [sI_g (by omega)], by rw [sI_k q]⟩, ?_, ?_⟩
        · rw [sI_g (by omega), u2, b1_f hcf]; rfl
        · rw [sI_eq, u3, nI_or]
          congr 2
          refine bs_cong fun e he => ?_
          simp [tp, hcf, q4]
      have un4 : cal D H kd k c (o n) = false → kd (o n) = 4 → M'.1 36 0 (o n) = nI (Hh (o n) + b1 (cal D H kd k c (o n))) ∧ M'.1 37 0 (o n) = nI (T (o n) ||| bs (tp D H kd k c (o n)) (D 5)) := by
        intro hcf q4
        refine ⟨by rw [u2, b1_f hcf]; rfl, ?_⟩
        rw [u3, bs_none (fun e _ => by simp [tp, q4]), Nat.or_zero]
      refine ix_i n rfl (show n < 4 by omega) ?_
      refine ix_i (o n) eo (show o n < 4 by omega) ?_
      refine And.intro (fun q => ?_) (fun q => ?_)
      · rw [e23] at q
        have q := b1_0 q
        have hcf : cal D H kd k c (o n) = false := by
          cases w : cal D H kd k c (o n)
          · rfl
          · rw [(hcal.mp w).1] at q; exact absurd q (by decide)
        refine c_tryEnds eo (by omega) hk h4 (hkd _ hoH) e22 hs' (fun q4 => ?_) (fun q4 => ?_)
        · have hm : (if cal D H kd k c (o n) then 0 else lo D (kd (o n)) k) = 1 := by rw [hcf]; unfold lo; rw [if_pos hck, if_pos q4]; rfl
          refine ix_i (o n) eo (show o n < 4 by omega) ?_
          refine ix_i (o n) eo (show o n < 4 by omega) ?_
          refine ix_i (o n) eo (show o n < 4 by omega) ?_
          refine ix_i (o n) eo (show o n < 4 by omega) ?_
          refine ix_i k rfl (show k < 7 by omega) ?_
          refine ix_i k rfl (show k < 7 by omega) ?_
          refine ix_i (o n) eo (show o n < 4 by omega) ?_
          refine ix_i k rfl (show k < 7 by omega) ?_
          exact fin M' 1 hm frS_refl (fun i _ => ⟨rfl, rfl⟩) (un4 hcf q4).1 (un4 hcf q4).2
        · have hm : (if cal D H kd k c (o n) then 0 else lo D (kd (o n)) k) = los D (kd (o n) == 3) k (D 5) := by rw [hcf]; unfold lo; rw [if_pos hck, if_neg q4]; rfl
          obtain ⟨z1, z2, z3, z4⟩ := un hcf q4 _ rfl
          refine ix_i (o n) eo (show o n < 4 by omega) ?_
          refine ix_i (o n) eo (show o n < 4 by omega) ?_
          refine ix_i (o n) eo (show o n < 4 by omega) ?_
          refine ix_i (o n) eo (show o n < 4 by omega) ?_
          refine ix_i k rfl (show k < 7 by omega) ?_
          refine ix_i k rfl (show k < 7 by omega) ?_
          refine ix_i (o n) eo (show o n < 4 by omega) ?_
          refine ix_i k rfl (show k < 7 by omega) ?_
          exact fin _ _ hm z1 z2 z3 z4
      · rw [e23] at q
        have q := b1_1 q
        refine ix_i (o n) eo (show o n < 4 by omega) ?_
        refine ix_i k rfl (show k < 7 by omega) ?_
        refine And.intro (fun q2 => ?_) (fun q2 => ?_)
        · rw [ec] at q2
          have q2 := nlt_use q2
          have hcf : cal D H kd k c (o n) = false := by
            cases w : cal D H kd k c (o n)
            · rfl
            · have := (hcal.mp w).2.2; omega
          refine c_tryEnds eo (by omega) hk h4 (hkd _ hoH) e22 hs' (fun q4 => ?_) (fun q4 => ?_)
          · have hm : (if cal D H kd k c (o n) then 0 else lo D (kd (o n)) k) = 1 := by rw [hcf]; unfold lo; rw [if_pos hck, if_pos q4]; rfl
            refine ix_i (o n) eo (show o n < 4 by omega) ?_
            refine ix_i (o n) eo (show o n < 4 by omega) ?_
            refine ix_i (o n) eo (show o n < 4 by omega) ?_
            refine ix_i (o n) eo (show o n < 4 by omega) ?_
            refine ix_i k rfl (show k < 7 by omega) ?_
            refine ix_i k rfl (show k < 7 by omega) ?_
            refine ix_i (o n) eo (show o n < 4 by omega) ?_
            refine ix_i k rfl (show k < 7 by omega) ?_
            exact fin M' 1 hm frS_refl (fun i _ => ⟨rfl, rfl⟩) (un4 hcf q4).1 (un4 hcf q4).2
          · have hm : (if cal D H kd k c (o n) then 0 else lo D (kd (o n)) k) = los D (kd (o n) == 3) k (D 5) := by rw [hcf]; unfold lo; rw [if_pos hck, if_neg q4]; rfl
            obtain ⟨z1, z2, z3, z4⟩ := un hcf q4 _ rfl
            refine ix_i (o n) eo (show o n < 4 by omega) ?_
            refine ix_i (o n) eo (show o n < 4 by omega) ?_
            refine ix_i (o n) eo (show o n < 4 by omega) ?_
            refine ix_i (o n) eo (show o n < 4 by omega) ?_
            refine ix_i k rfl (show k < 7 by omega) ?_
            refine ix_i k rfl (show k < 7 by omega) ?_
            refine ix_i (o n) eo (show o n < 4 by omega) ?_
            refine ix_i k rfl (show k < 7 by omega) ?_
            exact fin _ _ hm z1 z2 z3 z4
        · rw [ec] at q2
          have q2 := nle_use q2
          have hct : cal D H kd k c (o n) = true := hcal.mpr ⟨q, hck, q2⟩
          refine ix_i (o n) eo (show o n < 4 by omega) ?_
          refine ix_i (o n) eo (show o n < 4 by omega) ?_
          refine ix_i (o n) eo (show o n < 4 by omega) ?_
          refine ix_i (o n) eo (show o n < 4 by omega) ?_
          refine ix_i (o n) eo (show o n < 4 by omega) ?_
          refine ix_i (o n) eo (show o n < 4 by omega) ?_
          refine ix_i k rfl (show k < 7 by omega) ?_
          refine ix_i k rfl (show k < 7 by omega) ?_
          refine ix_i (o n) eo (show o n < 4 by omega) ?_
          refine ix_i k rfl (show k < 7 by omega) ?_
          refine fin (ab_sI M' 36 0 (o n) (M'.1 36 0 (o n) + nI 1)) 0 (by rw [if_pos hct]) (frS_sI frS_refl (by omega) (by omega)) (fun i q => ⟨by rw [sI_k q], by rw [sI_g (by omega)]⟩) ?_ ?_
          · rw [sI_eq, u2, nI_add, b1_t hct]
          · rw [sI_g (by omega), u3, bs_none (fun e _ => by simp [tp, hct]), Nat.or_zero]
  exact key 0 (Nat.zero_le _) M1 1000000 frS_refl (fun _ _ _ => rfl) (fun i hi ⟨m, q, _⟩ => absurd q (by omega)) (fun i hi _ => by rw [hf1.2 35 0 (by omega), hf1.2 36 0 (by omega), hf1.2 37 0 (by omega)]; exact hL i hi) (lsI_0 (fun j _ ⟨m, q, _⟩ => by omega)) (by omega)
end Leave
