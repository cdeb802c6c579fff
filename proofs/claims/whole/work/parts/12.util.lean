/-! ===== rows for the walks ===== -/
theorem up_ind {n : Nat} {P : Nat → Prop} (h : ∀ j, j ≤ n → (j < n → P (j + 1)) → P j) : ∀ j, j ≤ n → P j := by
  intro j hj
  obtain ⟨k, hk⟩ : ∃ k, n - j = k := ⟨_, rfl⟩
  induction k generalizing j with
  | zero => exact h j hj (fun q => by omega)
  | succ k ih => exact h j hj (fun q => ih (j + 1) (by omega) (by omega))
theorem sI_eq {M : ab_M} {g i k : Nat} {v : Int32} : (ab_sI M g i k v).1 g i k = v := if_pos ⟨rfl, rfl, rfl⟩
theorem sI_ne {M : ab_M} {g i k a b c : Nat} {v : Int32} (h : ¬ (a = g ∧ b = i ∧ c = k)) : (ab_sI M g i k v).1 a b c = M.1 a b c := if_neg h
theorem sI_g {M : ab_M} {g i k a : Nat} {v : Int32} (h : a ≠ g) : (ab_sI M g i k v).1 a = M.1 a := by
  funext b c
  exact if_neg (fun q => h q.1)
theorem sI_i {M : ab_M} {g i k a b : Nat} {v : Int32} (h : b ≠ i) : (ab_sI M g i k v).1 a b = M.1 a b := by
  funext c
  exact if_neg (fun q => h q.2.1)
theorem sI_k {M : ab_M} {g i k a b c : Nat} {v : Int32} (h : c ≠ k) : (ab_sI M g i k v).1 a b c = M.1 a b c := if_neg (fun q => h q.2.2)
theorem sI_2 {M : ab_M} {g i k : Nat} {v : Int32} : (ab_sI M g i k v).2 = M.2 := rfl
theorem sJ_1 {M : ab_M} {g i k : Nat} {v : Int64} : (ab_sJ M g i k v).1 = M.1 := rfl
/-- a row of the memory that is another one now -/
def sR (M : ab_M) (g i : Nat) (f : Nat → Int32) : ab_M := (fun a b => if a = g ∧ b = i then f else M.1 a b, M.2)
theorem sR_eq {M : ab_M} {g i : Nat} {f : Nat → Int32} : (sR M g i f).1 g i = f := if_pos ⟨rfl, rfl⟩
theorem sR_ne {M : ab_M} {g i a b : Nat} {f : Nat → Int32} (h : ¬ (a = g ∧ b = i)) : (sR M g i f).1 a b = M.1 a b := if_neg h
theorem sR_g {M : ab_M} {g i a : Nat} {f : Nat → Int32} (h : a ≠ g) : (sR M g i f).1 a = M.1 a := by
  funext b
  exact if_neg (fun q => h q.1)
theorem sR_self (M : ab_M) (g i : Nat) : sR M g i (M.1 g i) = M := by
  refine Prod.ext ?_ rfl
  funext a b
  show (if a = g ∧ b = i then M.1 g i else M.1 a b) = _
  split
  · rename_i h
    rw [h.1, h.2]
  · rfl
theorem sI_sR (M : ab_M) (g i k : Nat) (f : Nat → Int32) (v : Int32) : ab_sI (sR M g i f) g i k v = sR M g i (upd f k v) := by
  refine Prod.ext ?_ rfl
  funext a b c
  show (if a = g ∧ b = i ∧ c = k then v else (if a = g ∧ b = i then f else M.1 a b) c) = (if a = g ∧ b = i then upd f k v else M.1 a b) c
  by_cases h : a = g ∧ b = i
  · rw [if_pos h, if_pos h]
    by_cases hk : c = k
    · rw [if_pos ⟨h.1, h.2, hk⟩, hk]; simp [upd]
    · rw [if_neg (fun q => hk q.2.2)]; simp [upd, hk]
  · rw [if_neg h, if_neg h, if_neg (fun q => h ⟨q.1, q.2.1⟩)]
theorem sI_as_sR (M : ab_M) (g i k : Nat) (v : Int32) : ab_sI M g i k v = sR M g i (upd (M.1 g i) k v) := by
  rw [← sI_sR, sR_self]
theorem sR_sR (M : ab_M) (g i : Nat) (f h : Nat → Int32) : sR (sR M g i f) g i h = sR M g i h := by
  refine Prod.ext ?_ rfl
  funext a b
  show (if a = g ∧ b = i then h else if a = g ∧ b = i then f else M.1 a b) = if a = g ∧ b = i then h else M.1 a b
  split <;> rfl
theorem upd_eq {f : Nat → Int32} {k : Nat} {v : Int32} : upd f k v k = v := by simp [upd]
theorem upd_ne {f : Nat → Int32} {k j : Nat} {v : Int32} (h : j ≠ k) : upd f k v j = f j := by simp [upd, h]
theorem nle_use {a b : Nat} (h : nI a ≤ nI b) (ha : a < 2 ^ 31 := by omega) (hb : b < 2 ^ 31 := by omega) : a ≤ b := (nI_leI ha hb).mp h
theorem nlt_use {a b : Nat} (h : nI a < nI b) (ha : a < 2 ^ 31 := by omega) (hb : b < 2 ^ 31 := by omega) : a < b := (nI_ltI ha hb).mp h
theorem neq_use {a b : Nat} (h : nI a = nI b) (ha : a < 2 ^ 31 := by omega) (hb : b < 2 ^ 31 := by omega) : a = b := (nI_eq ha hb).mp h
theorem nne_use {a b : Nat} (h : ¬ nI a = nI b) : a ≠ b := fun q => h (by rw [q])
/-- an int is below 0, or a number -/
theorem i_cases (x : Int32) : x < nI 0 ∨ ∃ j : Nat, j < 2 ^ 31 ∧ x = nI j := by
  by_cases h : x < 0
  · exact Or.inl h
  · exact Or.inr (nI_of h)
theorem i_of_ge {x : Int32} (h : nI 0 ≤ x) : ∃ j : Nat, j < 2 ^ 31 ∧ x = nI j := nI_of (by
  intro q
  rw [Int32.lt_iff_toInt_lt] at q
  have h : (0 : Int32) ≤ x := h
  rw [Int32.le_iff_toInt_le] at h
  omega)
theorem i_lt_le {x y : Int32} (h : x < y) (h2 : y ≤ x) : False := by
  rw [Int32.lt_iff_toInt_lt] at h
  rw [Int32.le_iff_toInt_le] at h2
  omega
theorem ix_i {x : Int32} {n : Nat} {f : Nat → Prop} (j : Nat) (hx : x = nI j) (hj : j < n) (h : f j) : ∃ j, x = nI j ∧ j < n ∧ f j := ⟨j, hx, hj, h⟩
