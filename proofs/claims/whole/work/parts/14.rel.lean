/-! ===== what holds between the class's cells and the reference's ===== -/
/-- minutes of a path of a country (last one first), 0: none -/
def pmr (D : Nat → Nat) (x y : Nat) : Nat → Nat
  | 0 => 0
  | k + 1 => if (D (10 + k) = x ∧ D (22 + k) = y) ∨ (D (10 + k) = y ∧ D (22 + k) = x) then D (34 + k) else pmr D x y k
def pm (D : Nat → Nat) (x y : Nat) : Nat := pmr D x y (D 2)
/-- a country as it can be: its text's part, then the rest -/
def wfL (D : Nat → Nat) : Prop :=
  D 0 ≤ 7 ∧ D 1 ≤ 4 ∧ D 2 ≤ 12 ∧ (∀ i, i < D 1 → D (6 + i) ≤ 5) ∧ (∀ k, k < D 2 → D (10 + k) < D 0 ∧ D (22 + k) < D 0 ∧ D (10 + k) ≠ D (22 + k) ∧ 1 ≤ D (34 + k) ∧ D (34 + k) ≤ 9)
def wfC (D : Nat → Nat) : Prop :=
  D 3 ≤ 9 ∧ (D 4 = 0 ∨ (2 ≤ D 4 ∧ D 4 ≤ D 0 ∧ D 46 = 0 ∧ D (45 + D 4) + 1 = D 0)) ∧ D 5 ≤ 8 ∧ (D 4 = 0 → D 5 = 0) ∧ (∀ k, k < D 4 → D (46 + k) < D 0) ∧ (∀ j k, j < k → k < D 4 → D (46 + j) ≠ D (46 + k)) ∧ (∀ k, k + 1 < D 4 → 0 < pm D (D (46 + k)) (D (46 + k + 1))) ∧
  (∀ e, e < D 5 → ∃ k, k + 1 < D 4 ∧ D (53 + e) = D (46 + k) ∧ D (61 + e) < D 0 ∧ D (61 + e) ≠ D (53 + e) ∧ D (61 + e) ≠ D (46 + k + 1) ∧ 0 < pm D (D (53 + e)) (D (61 + e)) ∧ 1 ≤ D (69 + e) ∧ D (69 + e) ≤ 5) ∧ (∀ e f, e < f → f < D 5 → ¬ (D (53 + e) = D (53 + f) ∧ D (61 + e) = D (61 + f))) ∧ D 77 < 2 ^ D 0
def wf (D : Nat → Nat) : Prop := wfL D ∧ wfC D
/-- the class's land and course -/
def ldC (M : ab_M) (l : Nat) (D : Nat → Nat) : Prop := M.1 9 l 0 = nI (D 0) ∧ M.1 9 l 1 = nI (D 1) ∧ M.1 9 l 2 = nI (D 2) ∧ (∀ i, i < D 1 → M.1 10 l i = nI (D (6 + i))) ∧ ∀ x, x < 7 → ∀ y, y < 7 → M.1 12 (7 * l + x) y = nI (pm D x y)
def crC (M : ab_M) (c : Nat) (D : Nat → Nat) : Prop := M.1 14 c 0 = nI (D 3) ∧ M.1 14 c 1 = nI (D 4) ∧ M.1 14 c 2 = nI (D 5) ∧ M.1 14 c 3 = nI (D 77) ∧ (∀ k, k < D 4 → M.1 15 c k = nI (D (46 + k))) ∧ ∀ e, e < D 5 → M.1 16 c e = nI (D (53 + e)) ∧ M.1 17 c e = nI (D (61 + e)) ∧ M.1 18 c e = nI (D (69 + e))
/-- the reference's -/
def nwM (M : ab_M) (g o : Nat) (D : Nat → Nat) : Prop := ∀ k, k < 78 → M.1 g 0 (o + k) = nI (D k)
/-- a row (text): the size -1, or n and n places -/
def rowOk (c m : Int32) (f g : Nat → Int32) (mx : Nat) : Prop := c = m ∧ (m = -1 ∨ ∃ n, n ≤ mx ∧ m = nI n ∧ ∀ k, k < n → f k = g k)
def rw_ok (M : ab_M) : Prop := ∀ r, r < 6 → rowOk (M.1 4 0 r) (M.1 50 0 r) (M.1 3 r) (fun k => M.1 51 0 (40 * r + k)) 40
def tx_ok (M : ab_M) : Prop := ∀ t, t < 4 → rowOk (M.1 8 0 t) (M.1 52 0 t) (M.1 7 t) (fun k => M.1 53 0 (80 * t + k)) 80
def sc_ok (M : ab_M) : Prop := M.1 0 0 14 = M.1 49 0 7 ∧ M.2.1 0 0 15 = M.2.1 49 0 8 ∧ M.2.1 0 0 16 = M.2.1 49 0 9 ∧ M.1 0 0 13 = M.1 49 0 10 ∧ ∀ f, 1 ≤ f → f ≤ 5 → M.1 48 0 f = M.1 57 0 f
def kp_ok (M : ab_M) (D : Nat → Nat) : Prop := ∀ k, k < 3 → M.1 20 0 k = M.1 56 0 k ∧ (M.1 56 0 k = 0 ∨ (M.1 56 0 k = 1 ∧ 2 ≤ D 0 ∧ ∃ E : Nat → Nat, wf E ∧ (∀ j, (j < 3 ∨ (6 ≤ j ∧ j < 46)) → E j = D j) ∧ crC M (1 + k) E ∧ nwM M 55 (78 * k) E))
/-- the reference's two rows of longs -/
def wx_ok (M : ab_M) : Prop := (M.2.2 49 0 27 = 0 ∧ M.2.2 49 0 28 = 1) ∨ (M.2.2 49 0 27 = 1 ∧ M.2.2 49 0 28 = 0)
def fc_ok (M : ab_M) : Prop := M.1 70 0 0 = nI 1 ∧ M.1 70 0 1 = nI 1 ∧ M.1 70 0 2 = nI 2 ∧ M.1 70 0 3 = nI 6 ∧ M.1 70 0 4 = nI 24 ∧ M.1 70 0 5 = nI 120 ∧ wx_ok M
def Rel (M : ab_M) : Prop := rw_ok M ∧ tx_ok M ∧ sc_ok M ∧ fc_ok M ∧ ∃ D, wf D ∧ (D 0 = 0 ∨ 2 ≤ D 0) ∧ (D 0 = 0 → ∀ k, k < 78 → D k = 0) ∧ ldC M 0 D ∧ crC M 0 D ∧ nwM M 54 0 D ∧ kp_ok M D
/-- a step of the law: the class's call, the reference's call, the same answer -/
def OpI (d i j : Nat) (as : List ab_V) (M : ab_M) : Prop := ab_Call d i (vr 0 0 :: as) M (fun r1 M1 => ab_Call d j (vr 49 0 :: as) M1 (fun r2 M2 => (∃ v, r1 = some (vi v) ∧ r2 = some (vi v)) ∧ Rel M2))
def OpL (d i j : Nat) (as : List ab_V) (M : ab_M) : Prop := ab_Call d i (vr 0 0 :: as) M (fun r1 M1 => ab_Call d j (vr 49 0 :: as) M1 (fun r2 M2 => (∃ v, r1 = some (vl v) ∧ r2 = some (vl v)) ∧ Rel M2))
/-! ===== numbers ===== -/
theorem ix_cases (x : Int32) {n : Nat} (hn : n < 2 ^ 31) : (∃ j, j < n ∧ x = nI j) ∨ ∀ j, j < n → x ≠ nI j := by
  rcases pk_ix x hn with h | h | ⟨j, h1, h2⟩
  · exact Or.inr (fun j hj e => by rw [e] at h; exact nI_pos (by omega) h)
  · exact Or.inr (fun j hj e => by rw [e] at h; exact nI_ge hj hn h)
  · exact Or.inl ⟨j, h1, h2⟩
theorem ix_no {x : Int32} {n : Nat} (hn : n < 2 ^ 31) (h : ∀ j, j < n → x ≠ nI j) : x < nI 0 ∨ nI n ≤ x := by
  rcases pk_ix x hn with q | q | ⟨j, h1, h2⟩
  · exact Or.inl q
  · exact Or.inr q
  · exact absurd h2 (h j h1)
theorem l_lt {x y : Int32} : x.toInt64 < y.toInt64 ↔ x < y := by
  rw [Int64.lt_iff_toInt_lt, Int32.lt_iff_toInt_lt, Int32.toInt_toInt64, Int32.toInt_toInt64]
theorem l_le {x y : Int32} : x.toInt64 ≤ y.toInt64 ↔ x ≤ y := by
  rw [Int64.le_iff_toInt_le, Int32.le_iff_toInt_le, Int32.toInt_toInt64, Int32.toInt_toInt64]
theorem i_le_trans {x y z : Int32} (h : x ≤ y) (h2 : y ≤ z) : x ≤ z := by
  rw [Int32.le_iff_toInt_le] at *
  omega
theorem i_not_le {x y : Int32} (h : x < y) : ¬ y ≤ x := fun q => i_lt_le h q
/-- the reference's in(x, a, b), of ints -/
theorem c_in {d : Nat} {x a b : Int32} {u v : Int64} {M : ab_M} {K : ab_K} (hu : u = a.toInt64) (hv : v = b.toInt64) (h1 : a ≤ x → x ≤ b → K (some (.inl 1)) M) (h0 : ¬ (a ≤ x ∧ x ≤ b) → K (some (.inl 0)) M) : ab_Call d 161 [vl x.toInt64, vl u, vl v] M K := by
  subst hu
  subst hv
  refine caX10_in rfl (atX10_in ?_)
  refine And.intro (fun h => ?_) (And.intro (fun h => ?_) (fun h => ?_))
  · exact h0 (fun q => i_lt_le (l_lt.mp h) q.1)
  · refine And.intro (fun h2 => ?_) (And.intro (fun h2 => ?_) (fun h2 => ?_))
    · exact h1 (l_le.mp (by rw [h]; exact Int64.le_refl _)) (l_le.mp (Int64.le_of_lt h2))
    · exact h1 (l_le.mp (by rw [h]; exact Int64.le_refl _)) (l_le.mp (by rw [h2]; exact Int64.le_refl _))
    · exact h0 (fun q => i_lt_le (l_lt.mp h2) q.2)
  · refine And.intro (fun h2 => ?_) (And.intro (fun h2 => ?_) (fun h2 => ?_))
    · exact h1 (l_le.mp (Int64.le_of_lt h)) (l_le.mp (Int64.le_of_lt h2))
    · exact h1 (l_le.mp (Int64.le_of_lt h)) (l_le.mp (by rw [h2]; exact Int64.le_refl _))
    · exact h0 (fun q => i_lt_le (l_lt.mp h2) q.2)
/-- in(nI j, nI lo, nI hi) -/
theorem c_in1 {d j lo hi : Nat} {u v : Int64} {M : ab_M} {K : ab_K} (hu : u = (nI lo).toInt64) (hv : v = (nI hi).toInt64) (h1 : lo ≤ j) (h2 : j ≤ hi) (hb : hi < 2 ^ 31) (hK : K (some (.inl 1)) M) : ab_Call d 161 [vl (nI j).toInt64, vl u, vl v] M K :=
  c_in hu hv (fun _ _ => hK) (fun h => absurd ⟨nI_le h1 (by omega), nI_le h2 hb⟩ h)
/-- in(x, 0, nI n - 1), where x is no such number -/
theorem c_in0 {d : Nat} {x : Int32} {n : Nat} {u v : Int64} {M : ab_M} {K : ab_K} (hu : u = (nI 0).toInt64) (hv : v = (nI n - nI 1).toInt64) (hn : n < 2 ^ 30) (h : ∀ j, j < n → x ≠ nI j) (hK : K (some (.inl 0)) M) : ab_Call d 161 [vl x.toInt64, vl u, vl v] M K := by
  refine c_in hu hv (fun h1 h2 => ?_) (fun _ => hK)
  obtain ⟨j, hj, rfl⟩ := i_of_ge h1
  exfalso
  have h3 : (nI j).toInt ≤ (nI n - nI 1).toInt := Int32.le_iff_toInt_le.mp h2
  rw [nI_toInt hj, pk_sub_toInt (by omega) (by omega)] at h3
  exact h j (by omega) rfl
