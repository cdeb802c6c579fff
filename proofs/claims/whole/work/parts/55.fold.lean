/-! ===== digest: folds ===== -/
def fo (h : Int64) (x : Int32) : Int64 := Int64.ofInt 31 * h + x.toInt64
def fol (f : Nat → Int32) (h : Int64) : Nat → Int64
  | 0 => h
  | n + 1 => fo (fol f h n) (f n)
theorem fol_cong {f g : Nat → Int32} {h : Int64} : ∀ {n : Nat}, (∀ k, k < n → f k = g k) → fol f h n = fol g h n
  | 0, _ => rfl
  | n + 1, q => by rw [fol, fol, fol_cong (fun k hk => q k (by omega)), q n (by omega)]
def folE (D : Nat → Nat) (h : Int64) : Nat → Int64
  | 0 => h
  | n + 1 => fo (fo (fo (folE D h n) (nI (D (53 + n)))) (nI (D (61 + n)))) (nI (D (69 + n)))
/-- rows (texts): sizes and places -/
def folS (s : Nat → Int32) (c : Nat → Nat → Int32) (h : Int64) : Nat → Int64
  | 0 => h
  | r + 1 => fol (c r) (fo (folS s c h r) (s r)) (s r).toInt.toNat
theorem m1_nat : (-1 : Int32).toInt.toNat = 0 := by decide
theorem nI_nat {n : Nat} (h : n < 2 ^ 31) : (nI n).toInt.toNat = n := by rw [nI_toInt h]; rfl
section Fold
variable {d c : Nat} {M : ab_M} {K : ab_K} {D : Nat → Nat}
theorem c_foldC {h : Int64} (hc : crC M c D) (hb : bnd D) (hK : K (some (vl (folE D (fol (fun k => nI (D (46 + k))) (fo h (nI (D 77))) (D 4)) (D 5)))) M) : ab_Call d 42 [vr 14 c, vl h] M K := by
  refine caX1_foldInto rfl (atX1_foldInto ?_)
  obtain ⟨b3, b4, b5, b6, b7, b8⟩ := hb
  have two : ∀ j, j ≤ D 5 → ab_At miX1_foldInto d 48 [some (vr 14 c), none, none, some (vl (folE D (fol (fun k => nI (D (46 + k))) (fo h (nI (D 77))) (D 4)) j)), none, some (vi (nI j))] [] M K := by
    refine up_ind fun j hj ih => ?_
    refine atX1_foldInto ?_
    refine And.intro (fun q => ?_) (fun q => ?_)
    · rw [hc.2.2.1] at q
      have : j = D 5 := by have := nle_use q; omega
      subst this
      exact hK
    · rw [hc.2.2.1] at q
      have hjn := nlt_use q
      obtain ⟨e1, e2, e3⟩ := hc.2.2.2.2.2 j hjn
      refine ix_i j rfl (show j < 8 by omega) ?_
      refine ix_i j rfl (show j < 8 by omega) ?_
      refine ix_i j rfl (show j < 8 by omega) ?_
      have := ih hjn
      rw [← nI_1 j, folE, ← e1, ← e2, ← e3] at this
      exact this
  have one : ∀ j, j ≤ D 4 → ab_At miX1_foldInto d 15 [some (vr 14 c), none, none, some (vl (fol (fun k => nI (D (46 + k))) (fo h (nI (D 77))) j)), none, some (vi (nI j))] [] M K := by
    refine up_ind fun j hj ih => ?_
    refine atX1_foldInto ?_
    refine And.intro (fun q => ?_) (fun q => ?_)
    · rw [hc.2.1] at q
      have : j = D 4 := by have := nle_use q; omega
      subst this
      exact two 0 (Nat.zero_le _)
    · rw [hc.2.1] at q
      have hjn := nlt_use q
      have e1 := hc.2.2.2.2.1 j hjn
      refine ix_i j rfl (show j < 7 by omega) ?_
      have := ih hjn
      rw [← nI_1 j, fol, ← e1] at this
      exact this
  have := one 0 (Nat.zero_le _)
  rw [fol, ← hc.2.2.2.1] at this
  exact this
theorem c_foldR {h : Int64} (hR : Rel M) (hK : K (some (vl (folS (M.1 50 0) (fun r k => M.1 51 0 (40 * r + k)) h 6))) M) : ab_Call d 93 [vr 1 0, vl h] M K := by
  refine caX7_foldInto rfl (atX7_foldInto ?_)
  have key : ∀ r, r ≤ 6 → ab_At miX7_foldInto d 5 [some (vr 1 0), none, none, some (vl (folS (M.1 50 0) (fun r k => M.1 51 0 (40 * r + k)) h r)), none, some (vi (nI r))] [] M K := by
    refine up_ind fun r hr ih => ?_
    refine atX7_foldInto ?_
    refine And.intro (fun q => ?_) (fun q => ?_)
    · have : r = 6 := by have := nle_use (a := 6) (b := r) q; omega
      subst this
      exact hK
    · have hrn : r < 6 := nlt_use (a := r) (b := 6) q
      refine ix_i r rfl hrn ?_
      have nx : ∀ n : Nat, (M.1 50 0 r).toInt.toNat = n → n ≤ 40 → (∀ k, k < n → M.1 3 r k = M.1 51 0 (40 * r + k)) → M.1 4 0 r = M.1 50 0 r → (n = 0 ∧ M.1 4 0 r = -1 ∨ M.1 4 0 r = nI n) → ∀ j, j ≤ n → ab_At miX7_foldInto d 33 [some (vr 1 0), none, none, some (vl (fol (fun k => M.1 51 0 (40 * r + k)) (fo (folS (M.1 50 0) (fun r k => M.1 51 0 (40 * r + k)) h r) (M.1 4 0 r)) j)), none, some (vi (nI r)), some (vi (nI j))] [] M K := by
        intro n hn n40 hcell hsz hor
        refine up_ind fun j hj ih2 => ?_
        refine atX7_foldInto ?_
        refine ix_i r rfl hrn ?_
        refine And.intro (fun q => ?_) (fun q => ?_)
        · have : j = n := by
            rcases hor with ⟨z, _⟩ | z
            · omega
            · rw [z] at q; have := nle_use q; omega
          subst this
          have := ih hrn
          rw [← nI_1 r, folS, hn, ← hsz] at this
          exact this
        · have hjn : j < n := by
            rcases hor with ⟨z, z2⟩ | z
            · rw [z2] at q; exact absurd q (fun w => i_lt_le w (i_le_trans (by decide) (nI_le (Nat.zero_le j) (by omega))))
            · rw [z] at q; exact nlt_use q
          refine ix_i r rfl hrn ?_
          refine ix_i j rfl (show j < 40 by omega) ?_
          have := ih2 hjn
          rw [← nI_1 j, fol, ← hcell j hjn] at this
          exact this
      rcases rw_cases hR hrn with ⟨s1, s2⟩ | ⟨n, n40, s1, s2, s3⟩
      · exact nx 0 (by rw [s2]; exact m1_nat) (by omega) (fun k hk => absurd hk (by omega)) (s1.trans s2.symm) (Or.inl ⟨rfl, s1⟩) 0 (Nat.le_refl _)
      · exact nx n (by rw [s2]; exact nI_nat (by omega)) n40 s3 (s1.trans s2.symm) (Or.inr s1) 0 (Nat.zero_le _)
  exact key 0 (Nat.zero_le _)
theorem c_foldT {h : Int64} (hR : Rel M) (hK : K (some (vl (folS (M.1 52 0) (fun r k => M.1 53 0 (80 * r + k)) h 4))) M) : ab_Call d 93 [vr 5 0, vl h] M K := by
  refine caX7_foldInto rfl (atX7_foldInto ?_)
  have key : ∀ r, r ≤ 4 → ab_At miX7_foldInto d 5 [some (vr 5 0), none, none, some (vl (folS (M.1 52 0) (fun r k => M.1 53 0 (80 * r + k)) h r)), none, some (vi (nI r))] [] M K := by
    refine up_ind fun r hr ih => ?_
    refine atX7_foldInto ?_
    refine And.intro (fun q => ?_) (fun q => ?_)
    · have : r = 4 := by have := nle_use (a := 4) (b := r) q; omega
      subst this
      exact hK
    · have hrn : r < 4 := nlt_use (a := r) (b := 4) q
      refine ix_i r rfl hrn ?_
      have nx : ∀ n : Nat, (M.1 52 0 r).toInt.toNat = n → n ≤ 80 → (∀ k, k < n → M.1 7 r k = M.1 53 0 (80 * r + k)) → M.1 8 0 r = M.1 52 0 r → (n = 0 ∧ M.1 8 0 r = -1 ∨ M.1 8 0 r = nI n) → ∀ j, j ≤ n → ab_At miX7_foldInto d 33 [some (vr 5 0), none, none, some (vl (fol (fun k => M.1 53 0 (80 * r + k)) (fo (folS (M.1 52 0) (fun r k => M.1 53 0 (80 * r + k)) h r) (M.1 8 0 r)) j)), none, some (vi (nI r)), some (vi (nI j))] [] M K := by
        intro n hn n40 hcell hsz hor
        refine up_ind fun j hj ih2 => ?_
        refine atX7_foldInto ?_
        refine ix_i r rfl hrn ?_
        refine And.intro (fun q => ?_) (fun q => ?_)
        · have : j = n := by
            rcases hor with ⟨z, _⟩ | z
            · omega
            · rw [z] at q; have := nle_use q; omega
          subst this
          have := ih hrn
          rw [← nI_1 r, folS, hn, ← hsz] at this
          exact this
        · have hjn : j < n := by
            rcases hor with ⟨z, z2⟩ | z
            · rw [z2] at q; exact absurd q (fun w => i_lt_le w (i_le_trans (by decide) (nI_le (Nat.zero_le j) (by omega))))
            · rw [z] at q; exact nlt_use q
          refine ix_i r rfl hrn ?_
          refine ix_i j rfl (show j < if r = 4 then 0 else 80 by rw [if_neg (by omega)]; omega) ?_
          have := ih2 hjn
          rw [← nI_1 j, fol, ← hcell j hjn] at this
          exact this
      rcases tx_cases hR hrn with ⟨s1, s2⟩ | ⟨n, n40, s1, s2, s3⟩
      · exact nx 0 (by rw [s2]; exact m1_nat) (by omega) (fun k hk => absurd hk (by omega)) (s1.trans s2.symm) (Or.inl ⟨rfl, s1⟩) 0 (Nat.le_refl _)
      · exact nx n (by rw [s2]; exact nI_nat (by omega)) n40 s3 (s1.trans s2.symm) (Or.inr s1) 0 (Nat.zero_le _)
  exact key 0 (Nat.zero_le _)
end Fold
