/-! ===== run: the class's draws ===== -/
theorem hasE_1 {D : Nat → Nat} {h t e : Nat} (he : e < D 5) (h1 : D (53 + e) = h) (h2 : D (61 + e) = t) : hasE D h t = true := exb_iff.mpr ⟨e, he, by simp [h1, h2]⟩
theorem hasE_0 {D : Nat → Nat} {h t : Nat} (hno : ∀ e, e < D 5 → ¬ (D (53 + e) = h ∧ D (61 + e) = t)) : hasE D h t = false := by
  cases q : hasE D h t
  · rfl
  · obtain ⟨e, he, h2⟩ := exb_iff.mp q
    exact absurd (by simpa using h2) (hno e he)
section Run
variable {d : Nat} {M : ab_M} {K : ab_K} {D : Nat → Nat}
/-- the lot's cell -/
def ltM (M : ab_M) (x : Int64) : ab_M := ab_sJ M 46 0 5 x
theorem c_endBetween_e {X Y : Nat} {v : Int32} (hv : v = nI X) (hc : crC M 0 D) (hb : bnd D) (hX : X < 2 ^ 31) (hY : Y < 2 ^ 31) (h1 : ∀ e, e < D 5 → D (53 + e) = X → D (61 + e) = Y → (∀ j, j < e → ¬ (D (53 + j) = X ∧ D (61 + j) = Y)) → K (some (vi (nI e))) M) (h0 : (∀ e, e < D 5 → ¬ (D (53 + e) = X ∧ D (61 + e) = Y)) → K (some (.inl (-9))) M) : ab_Call d 30 [vr 14 0, vi v, vi (nI Y)] M K := by
  subst hv
  exact c_endBetween hc hb hX hY h1 h0
theorem sJ_sJ (M : ab_M) (g i k : Nat) (u v : Int64) : ab_sJ (ab_sJ M g i k u) g i k v = ab_sJ M g i k v := by
  unfold ab_sJ
  refine Prod.ext rfl (Prod.ext ?_ rfl)
  funext a b c
  show (if a = g ∧ b = i ∧ c = k then v else if a = g ∧ b = i ∧ c = k then u else M.2.1 a b c) = if a = g ∧ b = i ∧ c = k then v else M.2.1 a b c
  split <;> rfl
theorem sJ_eq {M : ab_M} {g i k : Nat} {v : Int64} : (ab_sJ M g i k v).2.1 g i k = v := if_pos ⟨rfl, rfl, rfl⟩
end Run
