/-! ===== ways through the country, one after another ===== -/
def usd (w : Nat → Nat) (n p : Nat) : Bool := exb (fun m => w m == p) n
def fre (D w : Nat → Nat) (n p : Nat) : Bool := decide (0 < pm D (w (n - 1)) p) && !usd w n p
/-- the next place to go to, from t on (all places: none) -/
def isnf (D w : Nat → Nat) (n t p : Nat) : Prop := t ≤ p ∧ p ≤ D 0 ∧ (p < D 0 → fre D w n p = true) ∧ ∀ q, t ≤ q → q < p → fre D w n q = false
def wst (w : Nat → Nat) (n p : Nat) : Nat → Nat := fun k => if k = n then p else w k
theorem wst_n {w : Nat → Nat} {n p : Nat} : wst w n p n = p := if_pos rfl
theorem wst_o {w : Nat → Nat} {n p k : Nat} (h : k ≠ n) : wst w n p k = w k := if_neg h
theorem nf_ex (D w : Nat → Nat) (n : Nat) : ∀ r t, t + r = D 0 → ∃ p, isnf D w n t p
  | 0, t, h => ⟨t, Nat.le_refl _, by omega, fun q => by omega, fun q h1 h2 => by omega⟩
  | r + 1, t, h => by
    cases q : fre D w n t
    · obtain ⟨p, h1, h2, h3, h4⟩ := nf_ex D w n r (t + 1) (by omega)
      refine ⟨p, by omega, h2, h3, fun x x1 x2 => ?_⟩
      by_cases e : x = t
      · rw [e]; exact q
      · exact h4 x (by omega) x2
    · exact ⟨t, Nat.le_refl _, by omega, fun _ => q, fun x h1 h2 => by omega⟩
/-- k steps: none is left, or one is found -/
def Run (D : Nat → Nat) : Nat → Nat → (Nat → Nat) → Nat → Option (Nat × (Nat → Nat)) → Prop
  | 0, n, _, _, r => n = 0 ∧ r = none
  | k + 1, n, w, t, r => 0 < n ∧ ∃ p, isnf D w n t p ∧ ((p = D 0 ∧ Run D k (n - 1) w (w (n - 1) + 1) r) ∨ (p + 1 = D 0 ∧ r = some (n + 1, wst w n p)) ∨ (p + 1 < D 0 ∧ Run D k (n + 1) (wst w n p) 0 r))
/-- a walk that isn't at the inn -/
def vld (D : Nat → Nat) (n : Nat) (w : Nat → Nat) : Prop := w 0 = 0 ∧ (∀ k, k < n → w k + 1 < D 0) ∧ (∀ i j, i < j → j < n → w i ≠ w j) ∧ ∀ k, k + 1 < n → 0 < pm D (w k) (w (k + 1))
def trl (D : Nat → Nat) (n : Nat) (w : Nat → Nat) : Prop := 2 ≤ n ∧ n ≤ D 0 ∧ (∀ k, k < n → w k < D 0) ∧ w 0 = 0 ∧ w (n - 1) + 1 = D 0 ∧ (∀ j k, j < k → k < n → w j ≠ w k) ∧ ∀ k, k + 1 < n → 0 < pm D (w k) (w (k + 1))
theorem usd_f {w : Nat → Nat} {n p : Nat} : usd w n p = false ↔ ∀ k, k < n → w k ≠ p := by
  constructor
  · intro h k hk e
    have : usd w n p = true := exb_iff.mpr ⟨k, hk, by simp [e]⟩
    rw [h] at this
    exact absurd this (by decide)
  · intro h
    cases q : usd w n p
    · rfl
    · obtain ⟨k, hk, e⟩ := exb_iff.mp q
      exact absurd (by simpa using e) (h k hk)
theorem vld_n {D : Nat → Nat} {n : Nat} {w : Nat → Nat} (h : vld D n w) : n + 1 ≤ D 0 ∨ n = 0 := by
  rcases Nat.eq_zero_or_pos n with z | z
  · exact Or.inr z
  · have := h.2.1 0 z
    have := fb_holes (D 0 - 1) n w (fun i hi => by have := h.2.1 i hi; omega) h.2.2.1
    omega
theorem fre_use {D w : Nat → Nat} {n p : Nat} (h : fre D w n p = true) : 0 < pm D (w (n - 1)) p ∧ ∀ k, k < n → w k ≠ p := by
  unfold fre at h
  rw [Bool.and_eq_true] at h
  exact ⟨of_decide_eq_true h.1, usd_f.mp (by simpa using h.2)⟩
theorem vld_psh {D w : Nat → Nat} {n p : Nat} (h : vld D n w) (hn : 0 < n) (hf : fre D w n p = true) (hp : p + 1 < D 0) : vld D (n + 1) (wst w n p) := by
  obtain ⟨h1, h2, h3, h4⟩ := h
  obtain ⟨f1, f2⟩ := fre_use hf
  refine ⟨by rw [wst_o (by omega)]; exact h1, fun k hk => ?_, fun i j hij hj => ?_, fun k hk => ?_⟩
  · by_cases e : k = n
    · subst e; rw [wst_n]; exact hp
    · rw [wst_o e]; exact h2 k (by omega)
  · rw [wst_o (show i ≠ n by omega)]
    by_cases e : j = n
    · subst e; rw [wst_n]; exact f2 i (by omega)
    · rw [wst_o e]; exact h3 i j hij (by omega)
  · rw [wst_o (show k ≠ n by omega)]
    by_cases e : k + 1 = n
    · rw [e, wst_n, show k = n - 1 by omega]; exact f1
    · rw [wst_o e]; exact h4 k (by omega)
theorem trl_fnd {D w : Nat → Nat} {n p : Nat} (h : vld D n w) (hn : 0 < n) (hf : fre D w n p = true) (hp : p + 1 = D 0) : trl D (n + 1) (wst w n p) := by
  have hvn := vld_n h
  obtain ⟨h1, h2, h3, h4⟩ := h
  obtain ⟨f1, f2⟩ := fre_use hf
  refine ⟨by omega, by omega, fun k hk => ?_, by rw [wst_o (by omega)]; exact h1, by rw [show n + 1 - 1 = n by omega, wst_n]; exact hp, fun i j hij hj => ?_, fun k hk => ?_⟩
  · by_cases e : k = n
    · subst e; rw [wst_n]; omega
    · rw [wst_o e]; have := h2 k (by omega); omega
  · rw [wst_o (show i ≠ n by omega)]
    by_cases e : j = n
    · subst e; rw [wst_n]; exact f2 i (by omega)
    · rw [wst_o e]; exact h3 i j hij (by omega)
  · rw [wst_o (show k ≠ n by omega)]
    by_cases e : k + 1 = n
    · rw [e, wst_n, show k = n - 1 by omega]; exact f1
    · rw [wst_o e]; exact h4 k (by omega)
theorem vld_pop {D w : Nat → Nat} {n : Nat} (h : vld D n w) : vld D (n - 1) w := ⟨h.1, fun k hk => h.2.1 k (by omega), fun i j hij hj => h.2.2.1 i j hij (by omega), fun k hk => h.2.2.2 k (by omega)⟩
theorem vld_wst {D w : Nat → Nat} {n p : Nat} (h : vld D n w) (hn : 0 < n) : vld D n (wst w n p) := by
  obtain ⟨h1, h2, h3, h4⟩ := h
  refine ⟨by rw [wst_o (by omega)]; exact h1, fun k hk => by rw [wst_o (by omega)]; exact h2 k hk, fun i j hij hj => by rw [wst_o (by omega), wst_o (by omega)]; exact h3 i j hij hj, fun k hk => by rw [wst_o (by omega), wst_o (by omega)]; exact h4 k hk⟩
/-! what is left to do -/
def cf (D w : Nat → Nat) (n t : Nat) : Nat := sm (fun e => if t ≤ e ∧ usd w n e = false then 1 else 0) (D 0 - 1)
def Bw : Nat → Nat
  | 0 => 3
  | u + 1 => (u + 1) * (1 + Bw u) + 3
def lev (D w : Nat → Nat) (k t : Nat) : Nat := cf D w (k + 1) t * (1 + Bw (D 0 - 3 - k)) + 2 + (if t + 1 ≤ D 0 then 1 else 0)
def mu (D w : Nat → Nat) (n t : Nat) : Nat := lev D w (n - 1) t + sm (fun k => lev D w k (w (k + 1) + 1)) (n - 1)
theorem usd_cong {w w' : Nat → Nat} {n p : Nat} (h : ∀ k, k < n → w k = w' k) : usd w n p = usd w' n p := exb_cong (fun k hk => by rw [h k hk])
theorem cf_cong {D w w' : Nat → Nat} {n t : Nat} (h : ∀ k, k < n → w k = w' k) : cf D w n t = cf D w' n t := sm_cong (fun e _ => by rw [usd_cong h])
theorem lev_cong {D w w' : Nat → Nat} {k t : Nat} (h : ∀ j, j ≤ k → w j = w' j) : lev D w k t = lev D w' k t := by
  unfold lev
  rw [cf_cong (fun j hj => h j (by omega))]
theorem inj_cnt {w : Nat → Nat} {H : Nat} : ∀ n, (∀ k, k < n → w k < H) → (∀ i j, i < j → j < n → w i ≠ w j) → sm (fun e => if usd w n e then 1 else 0) H = n
  | 0, _, _ => sm_zero (fun _ _ => rfl)
  | n + 1, h1, h2 => by
    rw [sm_ins (p := fun e => usd w n e) (i := w n) (h1 n (by omega)) ?_ ?_, inj_cnt n (fun k hk => h1 k (by omega)) (fun i j a b => h2 i j a (by omega))]
    · exact usd_f.mpr (fun k hk => h2 k n hk (by omega))
    · intro k hk
      show (usd w n k || w n == k) = (usd w n k || k == w n)
      congr 1
      rw [Bool.eq_iff_iff, beq_iff_eq, beq_iff_eq]
      exact eq_comm
theorem cf_0 {D w : Nat → Nat} {n : Nat} (h : vld D n w) : cf D w n 0 + n = D 0 - 1 ∨ n = 0 := by
  rcases Nat.eq_zero_or_pos n with z | z
  · exact Or.inr z
  · left
    have a := inj_cnt (w := w) (H := D 0 - 1) n (fun k hk => by have := h.2.1 k hk; omega) h.2.2.1
    have b : cf D w n 0 + sm (fun e => if usd w n e then 1 else 0) (D 0 - 1) = sm (fun _ => 1) (D 0 - 1) := by
      unfold cf
      rw [← sm_add]
      refine sm_cong (fun e _ => ?_)
      cases usd w n e <;> simp
    have c : ∀ m, sm (fun _ => 1) m = m := fun m => by
      induction m with
      | zero => rfl
      | succ m ih => rw [sm, ih]
    rw [a, c] at b
    exact b
theorem cf_dec {D w : Nat → Nat} {n t p : Nat} (htp : t ≤ p) (hp : p + 1 < D 0) (hu : usd w n p = false) : cf D w n (p + 1) + 1 ≤ cf D w n t := by
  unfold cf
  have hs : D 0 - 1 = (p + 1) + (D 0 - 1 - (p + 1)) := by omega
  have e1 : ∀ g : Nat → Nat, sm g (D 0 - 1) = sm g p + g p + sm (fun k => g (p + 1 + k)) (D 0 - 1 - (p + 1)) := fun g => by rw [hs, sm_app, sm, ← hs]
  rw [e1, e1 (fun e => if t ≤ e ∧ usd w n e = false then 1 else 0), sm_zero (f := fun e => if p + 1 ≤ e ∧ usd w n e = false then 1 else 0) (n := p) (fun e he => if_neg (by omega)), if_neg (c := p + 1 ≤ p ∧ usd w n p = false) (by omega), if_pos (c := t ≤ p ∧ usd w n p = false) ⟨htp, hu⟩]
  have : sm (fun k => if p + 1 ≤ p + 1 + k ∧ usd w n (p + 1 + k) = false then 1 else 0) (D 0 - 1 - (p + 1)) = sm (fun k => if t ≤ p + 1 + k ∧ usd w n (p + 1 + k) = false then 1 else 0) (D 0 - 1 - (p + 1)) := sm_cong (fun k _ => by
    by_cases q : usd w n (p + 1 + k) = false
    · rw [if_pos ⟨by omega, q⟩, if_pos ⟨by omega, q⟩]
    · rw [if_neg (fun v => q v.2), if_neg (fun v => q v.2)])
  omega
theorem mu_pop {D w : Nat → Nat} {n t : Nat} (hn : 1 < n) : mu D w (n - 1) (w (n - 1) + 1) < mu D w n t := by
  unfold mu
  obtain ⟨m, rfl⟩ : ∃ m, n = m + 2 := ⟨n - 2, by omega⟩
  show lev D w m (w (m + 1) + 1) + sm _ m < lev D w (m + 1) t + sm (fun k => lev D w k (w (k + 1) + 1)) (m + 1)
  rw [sm]
  have : 2 ≤ lev D w (m + 1) t := by unfold lev; omega
  omega
theorem mu_psh {D w : Nat → Nat} {n t p : Nat} (h : vld D n w) (hn : 0 < n) (htp : t ≤ p) (hf : fre D w n p = true) (hp : p + 1 < D 0) : mu D (wst w n p) (n + 1) 0 < mu D w n t := by
  have hv := vld_psh h hn hf hp
  have hu : usd w n p = false := usd_f.mpr (fre_use hf).2
  have hc := (cf_0 hv).resolve_right (by omega)
  have hd := cf_dec (D := D) htp hp hu
  obtain ⟨m, rfl⟩ : ∃ m, n = m + 1 := ⟨n - 1, by omega⟩
  unfold mu
  show lev D (wst w (m + 1) p) (m + 1) 0 + sm _ (m + 1) < lev D w m t + sm _ m
  rw [sm, wst_n, lev_cong (w := wst w (m + 1) p) (w' := w) (k := m) (fun j hj => wst_o (by omega)), sm_cong (g := fun k => lev D w k (w (k + 1) + 1)) (fun k hk => by rw [wst_o (by omega), lev_cong (fun j hj => wst_o (by omega))])]
  have key : lev D (wst w (m + 1) p) (m + 1) 0 + lev D w m (p + 1) < lev D w m t := by
    unfold lev
    rw [if_pos (show 0 + 1 ≤ D 0 by omega), if_pos (show p + 1 + 1 ≤ D 0 by omega), if_pos (show t + 1 ≤ D 0 by omega)]
    generalize cf D (wst w (m + 1) p) (m + 1 + 1) 0 = A at hc ⊢
    generalize cf D w (m + 1) (p + 1) = B at hd ⊢
    generalize cf D w (m + 1) t = C at hd ⊢
    have hb : A * (1 + Bw (D 0 - 3 - (m + 1))) + 3 ≤ Bw (D 0 - 3 - m) := by
      cases hA : A with
      | zero =>
        rw [Nat.zero_mul]
        have : ∀ u, 3 ≤ Bw u := fun u => by cases u <;> rw [Bw] <;> omega
        have := this (D 0 - 3 - m)
        omega
      | succ a =>
        rw [show D 0 - 3 - m = a + 1 by omega, show D 0 - 3 - (m + 1) = a by omega, Bw]
        exact Nat.le_refl _
    have hm : (B + 1) * (1 + Bw (D 0 - 3 - m)) ≤ C * (1 + Bw (D 0 - 3 - m)) := Nat.mul_le_mul_right _ hd
    rw [Nat.add_mul, Nat.one_mul] at hm
    omega
  omega
theorem mu_fnd {D w : Nat → Nat} {n t p : Nat} (hn : 0 < n) (htp : t ≤ p) (hp : p + 1 = D 0) : mu D (wst w n p) n (D 0) < mu D w n t := by
  unfold mu
  rw [sm_cong (g := fun k => lev D w k (w (k + 1) + 1)) (fun k hk => by rw [wst_o (by omega), lev_cong (fun j hj => wst_o (by omega))]), lev_cong (w := wst w n p) (w' := w) (fun j hj => wst_o (by omega))]
  have : lev D w (n - 1) (D 0) < lev D w (n - 1) t := by
    unfold lev
    have : cf D w (n - 1 + 1) (D 0) = 0 := sm_zero (fun e he => if_neg (by omega))
    rw [this, if_neg (by omega), if_pos (by omega), Nat.zero_mul]
    omega
  omega
theorem run_ex {D : Nat → Nat} : ∀ m n w t, vld D n w → t ≤ D 0 → (0 < n → mu D w n t ≤ m) → ∃ k r, k ≤ m + 1 ∧ Run D k n w t r ∧ ∀ x, r = some x → trl D x.1 x.2 ∧ vld D (x.1 - 1) x.2 ∧ mu D x.2 (x.1 - 1) (D 0) < mu D w n t
  | m, 0, w, t, _, _, _ => ⟨0, none, by omega, ⟨rfl, rfl⟩, fun x h => absurd h (by simp)⟩
  | 0, n + 1, w, t, _, _, hm => by
    have := hm (by omega)
    have : 2 ≤ mu D w (n + 1) t := by unfold mu lev; omega
    omega
  | m + 1, n + 1, w, t, hv, ht, hm => by
    have hm := hm (by omega)
    obtain ⟨p, hp⟩ := nf_ex D w (n + 1) (D 0 - t) t (by omega)
    have hp' := hp
    obtain ⟨p1, p2, p3, p4⟩ := hp'
    rcases Nat.lt_trichotomy (p + 1) (D 0) with q | q | q
    · have hf := p3 (by omega)
      have hlt : mu D (wst w (n + 1) p) (n + 2) 0 < mu D w (n + 1) t := mu_psh hv (by omega) p1 hf q
      obtain ⟨k, r, k1, k2, k3⟩ := run_ex m (n + 2) (wst w (n + 1) p) 0 (vld_psh hv (by omega) hf q) (by omega) (fun _ => by omega)
      refine ⟨k + 1, r, by omega, ⟨by omega, p, hp, Or.inr (Or.inr ⟨q, k2⟩)⟩, fun x hx => ?_⟩
      obtain ⟨a, b, c⟩ := k3 x hx
      exact ⟨a, b, by omega⟩
    · have hf := p3 (by omega)
      refine ⟨1, some (n + 2, wst w (n + 1) p), by omega, ⟨by omega, p, hp, Or.inr (Or.inl ⟨q, rfl⟩)⟩, fun x hx => ?_⟩
      have hx : (n + 2, wst w (n + 1) p) = x := by simpa using hx
      subst hx
      exact ⟨trl_fnd hv (by omega) hf q, vld_wst hv (by omega), mu_fnd (by omega) p1 q⟩
    · have hpD : p = D 0 := by omega
      obtain ⟨k, r, k1, k2, k3⟩ := run_ex m n w (w n + 1) (vld_pop hv) (by have := hv.2.1 n (by omega); omega) (fun h => by have := mu_pop (D := D) (w := w) (n := n + 1) (t := t) (by omega); rw [show n + 1 - 1 = n by omega] at this; omega)
      refine ⟨k + 1, r, by omega, ⟨by omega, p, hp, Or.inl ⟨hpD, k2⟩⟩, fun x hx => ?_⟩
      obtain ⟨a, b, c⟩ := k3 x hx
      refine ⟨a, b, ?_⟩
      rcases Nat.eq_zero_or_pos n with z | z
      · subst z
        cases k with
        | zero => exact absurd (k2.2.symm.trans hx) (by simp)
        | succ k => exact absurd k2.1 (by omega)
      · have := mu_pop (D := D) (w := w) (n := n + 1) (t := t) (by omega)
        rw [show n + 1 - 1 = n by omega] at this
        omega
/-- all that are found, in their order -/
def Sq (D : Nat → Nat) : List (Nat × (Nat → Nat)) → Nat → (Nat → Nat) → Nat → Prop
  | [], n, w, t => ∃ k, k < 90000 ∧ Run D k n w t none
  | x :: L, n, w, t => (∃ k, k < 90000 ∧ Run D k n w t (some x)) ∧ trl D x.1 x.2 ∧ Sq D L (x.1 - 1) x.2 (D 0)
theorem Sq_ex {D : Nat → Nat} : ∀ m n w t, m < 80000 → vld D n w → t ≤ D 0 → mu D w n t ≤ m → ∃ L, L.length ≤ m ∧ Sq D L n w t
  | m, n, w, t, hm8, hv, ht, hm => by
    obtain ⟨k, r, k1, k2, k3⟩ := run_ex m n w t hv ht (fun _ => hm)
    cases r with
    | none => exact ⟨[], Nat.zero_le _, k, by omega, k2⟩
    | some x =>
      obtain ⟨a, b, c⟩ := k3 x rfl
      cases m with
      | zero => omega
      | succ m =>
        obtain ⟨L, h1, h2⟩ := Sq_ex m (x.1 - 1) x.2 (D 0) (by omega) b (Nat.le_refl _) (by omega)
        exact ⟨x :: L, by rw [List.length_cons]; omega, ⟨k, by omega, k2⟩, a, h2⟩
theorem Sq_all {D : Nat → Nat} (h2 : 2 ≤ D 0) (h7 : D 0 ≤ 7) : ∃ L, L.length ≤ 70000 ∧ Sq D L 1 (fun _ => 0) 0 := by
  have hv : vld D 1 (fun _ => 0) := ⟨rfl, fun k _ => by show 0 + 1 < _; omega, fun i j a b => by omega, fun k hk => by omega⟩
  refine Sq_ex 70000 1 (fun _ => 0) 0 (by omega) hv (by omega) ?_
  unfold mu lev
  rw [show sm (fun k => cf D (fun _ => 0) (k + 1) (0 + 1) * (1 + Bw (D 0 - 3 - k)) + 2 + if 0 + 1 + 1 ≤ D 0 then 1 else 0) (1 - 1) = 0 from rfl]
  have hc := (cf_0 hv).resolve_right (by omega)
  have hmono : ∀ u, u ≤ 4 → Bw u ≤ 259 := by decide
  have hb := hmono (D 0 - 3 - (1 - 1)) (by omega)
  have : cf D (fun _ => 0) (1 - 1 + 1) 0 * (1 + Bw (D 0 - 3 - (1 - 1))) ≤ 5 * 260 := Nat.mul_le_mul (show cf D (fun _ => 0) (1 - 1 + 1) 0 ≤ 5 by show cf D (fun _ => 0) 1 0 ≤ 5; omega) (by omega)
  split <;> omega
