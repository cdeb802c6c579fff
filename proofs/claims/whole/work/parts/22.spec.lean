/-! ===== words for a country: what its numbers come to ===== -/
def sm (f : Nat → Nat) : Nat → Nat
  | 0 => 0
  | k + 1 => sm f k + f k
theorem sm_cong {f g : Nat → Nat} : ∀ {n : Nat}, (∀ k, k < n → f k = g k) → sm f n = sm g n
  | 0, _ => rfl
  | n + 1, h => by rw [sm, sm, sm_cong (fun k hk => h k (by omega)), h n (by omega)]
theorem sm_le {f : Nat → Nat} {c : Nat} : ∀ {n : Nat}, (∀ k, k < n → f k ≤ c) → sm f n ≤ n * c
  | 0, _ => by simp [sm]
  | n + 1, h => by
    have := sm_le (n := n) (fun k hk => h k (by omega))
    have h2 := h n (by omega)
    rw [sm, Nat.succ_mul]
    omega
theorem sm_add (f g : Nat → Nat) : ∀ n, sm (fun k => f k + g k) n = sm f n + sm g n
  | 0 => rfl
  | n + 1 => by simp only [sm, sm_add f g n]; omega
theorem sm_zero {f : Nat → Nat} : ∀ {n : Nat}, (∀ k, k < n → f k = 0) → sm f n = 0
  | 0, _ => rfl
  | n + 1, h => by rw [sm, sm_zero (fun k hk => h k (by omega)), h n (by omega)]
/-- a path's minutes from a place of the trail on -/
def sg (D : Nat → Nat) (k : Nat) : Nat := pm D (D (46 + k)) (D (46 + k + 1))
def hrs (D : Nat → Nat) (k : Nat) : Nat := sm (sg D) k
def wb (w p : Nat) : Nat := w / 2 ^ p % 2
/-- a kind's pace -/
def pce (kd m : Nat) : Nat := if kd = 1 ∨ kd = 4 then (m + 1) / 2 else if kd = 2 then 2 * m else if kd = 5 then 2 * m + 1 else m
/-- a false end may be laid -/
def adm (D : Nat → Nat) (x y : Nat) : Prop := ∃ k, k + 1 < D 4 ∧ D (46 + k) = x ∧ 0 < pm D x y ∧ D (46 + k + 1) ≠ y ∧ ∀ e, e < D 5 → ¬ (D (53 + e) = x ∧ D (61 + e) = y)
/-- numbers are small -/
def bnd (D : Nat → Nat) : Prop := D 3 ≤ 9 ∧ D 4 ≤ 7 ∧ D 5 ≤ 8 ∧ D 77 < 128 ∧ (∀ k, k < D 4 → D (46 + k) < 7) ∧ ∀ e, e < D 5 → D (53 + e) < 7 ∧ D (61 + e) < 7 ∧ D (69 + e) ≤ 5
theorem bnd_of {D : Nat → Nat} (h : wf D) : bnd D := by
  obtain ⟨⟨h0, h1, h2, h3, h4⟩, w3, w4, w5, w6, w7, w8, w9, w10, w11, w12⟩ := h
  refine ⟨w3, by omega, w5, ?_, fun k hk => by have := w7 k hk; omega, fun e he => ?_⟩
  · exact Nat.lt_of_lt_of_le w12 (Nat.pow_le_pow_right (by omega) h0)
  · obtain ⟨k, k1, k2, k3, k4, k5, k6, k7, k8⟩ := w10 e he
    have := w7 k (by omega)
    omega
theorem pmr_le {D : Nat → Nat} {x y : Nat} : ∀ {n : Nat}, (∀ k, k < n → D (34 + k) ≤ 9) → pmr D x y n ≤ 9
  | 0, _ => by simp [pmr]
  | n + 1, h => by
    rw [pmr]
    split
    · exact h n (by omega)
    · exact pmr_le (fun k hk => h k (by omega))
theorem pm_le {D : Nat → Nat} (h : wfL D) (x y : Nat) : pm D x y ≤ 9 := pmr_le (fun k hk => (h.2.2.2.2 k hk).2.2.2.2)
theorem pmr_self {D : Nat → Nat} {x : Nat} : ∀ {n : Nat}, (∀ k, k < n → D (10 + k) ≠ D (22 + k)) → pmr D x x n = 0
  | 0, _ => rfl
  | n + 1, h => by
    rw [pmr, if_neg (fun q => h n (by omega) (by omega)), pmr_self (fun k hk => h k (by omega))]
theorem pm_self {D : Nat → Nat} (h : wfL D) (x : Nat) : pm D x x = 0 := pmr_self (fun k hk => (h.2.2.2.2 k hk).2.2.1)
theorem sg_le {D : Nat → Nat} (h : wfL D) (k : Nat) : sg D k ≤ 9 := pm_le h _ _
theorem hrs_le {D : Nat → Nat} (h : wfL D) (k : Nat) : hrs D k ≤ k * 9 := sm_le (fun j _ => sg_le h j)
/-! ===== bits ===== -/
theorem nI_and (a b : Nat) : nI a &&& nI b = nI (a &&& b) := by
  apply Int32.toBitVec_inj.mp
  rw [Int32.toBitVec_and]
  simp [nI]
theorem nI_or (a b : Nat) : nI a ||| nI b = nI (a ||| b) := by
  apply Int32.toBitVec_inj.mp
  rw [Int32.toBitVec_or]
  simp [nI]
theorem shm : ∀ p, p < 31 → ((nI p &&& 31).toBitVec.smod 32).toNat = p := by decide +kernel
theorem nI_shr {w p : Nat} (hw : w < 2 ^ 31) (hp : p < 31) : ab_shr (nI w) (nI p) = nI (w / 2 ^ p) := pk_shrN hw _ p (shm p hp)
theorem nI_shl {w p : Nat} (hp : p < 31) (h : w * 2 ^ p < 2 ^ 32) : ab_shl (nI w) (nI p) = nI (w * 2 ^ p) := pk_shlN _ p (shm p hp) h
theorem nI_shl1 {p : Nat} (hp : p < 31) : ab_shl (nI 1) (nI p) = nI (2 ^ p) := by
  rw [nI_shl hp (by rw [Nat.one_mul]; exact Nat.pow_lt_pow_right (by omega) (by omega)), Nat.one_mul]
theorem nI_bit {w p : Nat} (hw : w < 2 ^ 31) (hp : p < 31) : ab_shr (nI w) (nI p) &&& nI 1 = nI (wb w p) := by
  rw [nI_shr hw hp, nI_and]
  unfold wb
  rw [Nat.and_one_is_mod]
theorem wb_01 (w p : Nat) : wb w p = 0 ∨ wb w p = 1 := by unfold wb; omega
theorem nI_sub1 {n k : Nat} (hn : n < 2 ^ 30) (hk : k < 2 ^ 30) : nI n - nI 1 ≤ nI k ↔ n ≤ k + 1 := by
  rw [Int32.le_iff_toInt_le, pk_sub_toInt hn (by omega), nI_toInt (by omega)]
  omega
theorem nI_sub1_lt {n k : Nat} (hn : n < 2 ^ 30) (hk : k < 2 ^ 30) : nI k < nI n - nI 1 ↔ k + 1 < n := by
  rw [Int32.lt_iff_toInt_lt, pk_sub_toInt hn (by omega), nI_toInt (by omega)]
  omega
