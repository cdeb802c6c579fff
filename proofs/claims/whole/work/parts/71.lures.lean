/-! ===== false ends that could be laid ===== -/
noncomputable def adB (D : Nat → Nat) (c : Nat) : Bool := @decide (c / 10 < D 0 ∧ c % 10 < D 0 ∧ adm D (c / 10) (c % 10)) (Classical.propDecidable _)
theorem adB_1 {D : Nat → Nat} {c : Nat} (h1 : c / 10 < D 0) (h2 : c % 10 < D 0) (h3 : adm D (c / 10) (c % 10)) : adB D c = true := by
  unfold adB
  exact @decide_eq_true _ (Classical.propDecidable _) ⟨h1, h2, h3⟩
theorem adB_0 {D : Nat → Nat} {c : Nat} (h : ¬ (c / 10 < D 0 ∧ c % 10 < D 0 ∧ adm D (c / 10) (c % 10))) : adB D c = false := by
  unfold adB
  exact @decide_eq_false _ (Classical.propDecidable _) h
theorem adB_use {D : Nat → Nat} {c : Nat} (h : adB D c = true) : c / 10 < D 0 ∧ c % 10 < D 0 ∧ adm D (c / 10) (c % 10) := by
  unfold adB at h
  exact @of_decide_eq_true _ (Classical.propDecidable _) h
/-- how many there are below a code -/
noncomputable def cnt (D : Nat → Nat) (c : Nat) : Nat := sm (fun c => b1 (adB D c)) c
theorem cnt_1 {D : Nat → Nat} {c : Nat} (h : adB D c = true) : cnt D (c + 1) = cnt D c + 1 := by
  unfold cnt
  rw [sm, h]
  rfl
theorem cnt_0 {D : Nat → Nat} {c : Nat} (h : adB D c = false) : cnt D (c + 1) = cnt D c := by
  unfold cnt
  rw [sm, h]
  rfl
theorem cnt_mono {D : Nat → Nat} {a : Nat} : ∀ {b : Nat}, a ≤ b → cnt D a ≤ cnt D b := by
  intro b h
  obtain ⟨c, rfl⟩ := Nat.exists_eq_add_of_le h
  unfold cnt
  rw [sm_app]
  omega
theorem cnt_same {D : Nat → Nat} {a b : Nat} (h : a ≤ b) (hn : ∀ c, a ≤ c → c < b → adB D c = false) : cnt D b = cnt D a := by
  unfold cnt
  exact sm_ext h (fun k h1 h2 => by rw [hn k h1 h2]; rfl)
theorem sm_mono2 {f g : Nat → Nat} : ∀ {n : Nat}, (∀ k, k < n → f k ≤ g k) → sm f n ≤ sm g n
  | 0, _ => Nat.le_refl _
  | n + 1, h => by
    have := sm_mono2 (f := f) (g := g) (n := n) (fun k hk => h k (by omega))
    have := h n (by omega)
    rw [sm, sm]
    omega
theorem sm_ind (a : Nat) : ∀ n, sm (fun c => if c = a then 1 else 0) n ≤ 1 := by
  intro n
  rcases Nat.lt_or_ge a n with h | h
  · rw [sm_one h (fun k _ hk => if_neg hk), if_pos rfl]
    exact Nat.le_refl _
  · rw [sm_zero (fun k hk => if_neg (by omega))]
    omega
theorem pmr_ex {D : Nat → Nat} {x y : Nat} : ∀ {n : Nat}, 0 < pmr D x y n → ∃ k, k < n ∧ ((D (10 + k) = x ∧ D (22 + k) = y) ∨ (D (10 + k) = y ∧ D (22 + k) = x))
  | 0, h => absurd h (by simp [pmr])
  | n + 1, h => by
    rw [pmr] at h
    by_cases q : (D (10 + n) = x ∧ D (22 + n) = y) ∨ (D (10 + n) = y ∧ D (22 + n) = x)
    · exact ⟨n, by omega, q⟩
    · rw [if_neg q] at h
      obtain ⟨k, hk, h2⟩ := pmr_ex h
      exact ⟨k, by omega, h2⟩
theorem cnt_all {D : Nat → Nat} (hL : wfL D) : cnt D 70 ≤ 24 := by
  have h2 := hL.2.2.1
  have step : cnt D 70 ≤ sm (fun c => sm (fun k => (if c = 10 * D (10 + k) + D (22 + k) then 1 else 0) + (if c = 10 * D (22 + k) + D (10 + k) then 1 else 0)) (D 2)) 70 := by
    refine sm_mono2 (fun c hc => ?_)
    cases q : adB D c
    · exact Nat.zero_le _
    · obtain ⟨h0, h1, k0, k1, k2, k3, _⟩ := adB_use q
      obtain ⟨k, hk, w⟩ := pmr_ex k3
      have hle : ∀ n, k < n → 1 ≤ sm (fun k => (if c = 10 * D (10 + k) + D (22 + k) then 1 else 0) + (if c = 10 * D (22 + k) + D (10 + k) then 1 else 0)) n := by
        intro n hn
        obtain ⟨r, rfl⟩ := Nat.exists_eq_add_of_lt hn
        rw [show k + r + 1 = (k + 1) + r by omega, sm_app, sm]
        have : 1 ≤ (if c = 10 * D (10 + k) + D (22 + k) then 1 else 0) + (if c = 10 * D (22 + k) + D (10 + k) then 1 else 0) := by
          rcases w with ⟨w1, w2⟩ | ⟨w1, w2⟩
          · rw [if_pos (by omega)]; omega
          · rw [if_pos (c := c = 10 * D (22 + k) + D (10 + k)) (by omega)]; omega
        omega
      exact hle _ hk
  rw [sm_swap] at step
  have : sm (fun k => sm (fun c => (if c = 10 * D (10 + k) + D (22 + k) then 1 else 0) + (if c = 10 * D (22 + k) + D (10 + k) then 1 else 0)) 70) (D 2) ≤ D 2 * 2 := sm_le (fun k _ => by
    rw [sm_add]
    have a := sm_ind (10 * D (10 + k) + D (22 + k)) 70
    have b := sm_ind (10 * D (22 + k) + D (10 + k)) 70
    omega)
  omega
theorem cnt_lt {D : Nat → Nat} (hL : wfL D) {c : Nat} (hc : c < 70) (h : adB D c = true) : cnt D c < 24 := by
  have a := cnt_mono (D := D) (show c + 1 ≤ 70 by omega)
  rw [cnt_1 h] at a
  have := cnt_all hL
  omega
/-- the next one -/
theorem cnt_next {D : Nat → Nat} : ∀ r c, c + r = 70 → cnt D c < cnt D 70 → ∃ c0, c ≤ c0 ∧ c0 < 70 ∧ adB D c0 = true ∧ cnt D c0 = cnt D c ∧ ∀ j, c ≤ j → j < c0 → adB D j = false
  | 0, c, h, q => by
    have : c = 70 := by omega
    rw [this] at q
    omega
  | r + 1, c, h, q => by
    cases w : adB D c
    · obtain ⟨c0, h1, h2, h3, h4, h5⟩ := cnt_next r (c + 1) (by omega) (by rw [cnt_0 w]; exact q)
      refine ⟨c0, by omega, h2, h3, by rw [h4, cnt_0 w], fun j hj1 hj2 => ?_⟩
      by_cases e : j = c
      · rw [e]; exact w
      · exact h5 j (by omega) hj2
    · exact ⟨c, Nat.le_refl _, by omega, w, rfl, fun j h1 h2 => by omega⟩
/-- a row of codes that could be laid -/
def opn (D : Nat → Nat) (M : ab_M) (g c : Nat) : Prop := ∀ j, j < c → adB D j = true → M.1 g 0 (cnt D j) = nI j
theorem opn_set {D : Nat → Nat} {M : ab_M} {g c : Nat} (h : opn D M g c) (q : adB D c = true) : opn D (ab_sI M g 0 (cnt D c) (nI c)) g (c + 1) := by
  intro j hj w
  by_cases e : j = c
  · subst e
    exact sI_eq
  · rw [sI_ne]
    · exact h j (by omega) w
    · intro v
      have a := cnt_mono (D := D) (show j + 1 ≤ c by omega)
      rw [cnt_1 w] at a
      omega
theorem opn_up {D : Nat → Nat} {M : ab_M} {g a b : Nat} (h : opn D M g a) (hn : ∀ c, a ≤ c → c < b → adB D c = false) : opn D M g b := by
  intro j hj w
  rcases Nat.lt_or_ge j a with q | q
  · exact h j q w
  · rw [hn j q hj] at w
    exact absurd w (by decide)
theorem opn_fr {D : Nat → Nat} {M M' : ab_M} {g c : Nat} (h : opn D M g c) (hm : ∀ k, M'.1 g 0 k = M.1 g 0 k) : opn D M' g c := fun j hj w => by rw [hm]; exact h j hj w
/-! ===== what is left over in the reference's now ===== -/
def junk (n j : Nat) : Prop := ∃ e, n ≤ e ∧ e < 8 ∧ (j = 53 + e ∨ j = 61 + e ∨ j = 69 + e)
def frJ (n : Nat) (M M' : ab_M) : Prop := (∀ g i k, ¬ scr g i k → ¬ (g = 54 ∧ i = 0 ∧ junk n k) → M'.1 g i k = M.1 g i k) ∧ (∀ g i k, g ≠ 46 → g ≠ 67 → M'.2.1 g i k = M.2.1 g i k) ∧ ∀ g i k, g ≠ 13 → g ≠ 72 → M'.2.2 g i k = M.2.2 g i k
theorem frJ_A {n : Nat} {M M' : ab_M} (h : frA M M') : frJ n M M' := ⟨fun g i k q _ => h.1 g i k q, h.2.1, h.2.2⟩
theorem frJ_trans {n : Nat} {M M' M'' : ab_M} (h : frJ n M M') (h2 : frJ n M' M'') : frJ n M M'' := ⟨fun g i k q w => (h2.1 g i k q w).trans (h.1 g i k q w), fun g i k q q2 => (h2.2.1 g i k q q2).trans (h.2.1 g i k q q2), fun g i k q q2 => (h2.2.2 g i k q q2).trans (h.2.2 g i k q q2)⟩
