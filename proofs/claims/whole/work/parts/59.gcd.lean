/-! ===== fractions ===== -/
theorem lN_rem {a b : Nat} (ha : a < 2 ^ 63) (hb : b < 2 ^ 63) (hb0 : 0 < b) : ab_remL (lN a) (lN b) = lN (a % b) := pk_lRem ha hb0 hb
theorem gcd_st (x y : Nat) : Nat.gcd x y = Nat.gcd y (x % y) := by
  rw [Nat.gcd_comm x y, Nat.gcd_rec y x, Nat.gcd_comm]
theorem mod_half {y r : Nat} (hr : r < y) (hr0 : 0 < r) : 2 * (y % r) < y := by
  have h1 := Nat.mod_lt y hr0
  have h2 := Nat.div_add_mod y r
  have h3 : 1 ≤ y / r := Nat.div_pos (by omega) hr0
  have h4 : r * 1 ≤ r * (y / r) := Nat.mul_le_mul_left r h3
  omega
section Gcd
variable {d : Nat} {M : ab_M} {K : ab_K}
theorem c_commonOf {a b : Nat} (ha : a < 2 ^ 31) (hb : b < 2 ^ 31) (hK : K (some (vl (lN (Nat.gcd a b)))) M) : ab_Call d 65 [vl (lN a), vl (lN b)] M K := by
  refine caX4_commonOf rfl (atX4_commonOf ?_)
  have z : ∀ x s : Nat, Nat.gcd x 0 = Nat.gcd a b → s + 1 ≤ 1000 → ab_At miX4_commonOf d 9 [none, none, none, none, some (vl (lN x)), none, some (vl (lN 0)), none, some (vi (nI s))] [] M K := by
    intro x s hg hs
    refine atX4_commonOf ?_
    rw [← hg, Nat.gcd_zero_right] at hK
    refine And.intro (fun q => hK) (fun _ => ?_)
    refine And.intro (fun q => absurd (show lN 0 < lN 0 from q) (by decide)) (And.intro (fun _ => hK) (fun q => absurd (show lN 0 < lN 0 from q) (by decide)))
  have stp : ∀ x y s : Nat, x < 2 ^ 31 → y < 2 ^ 31 → 0 < y → s < 1000 → ab_At miX4_commonOf d 9 [none, none, none, none, some (vl (lN y)), none, some (vl (lN (x % y))), none, some (vi (nI (s + 1)))] [] M K → ab_At miX4_commonOf d 9 [none, none, none, none, some (vl (lN x)), none, some (vl (lN y)), none, some (vi (nI s))] [] M K := by
    intro x y s hx hy hy0 hs h
    refine atX4_commonOf ?_
    refine And.intro (fun q => absurd (nle_use (a := 1000) (b := s) q) (by omega)) (fun _ => ?_)
    have e := lN_rem (a := x) (b := y) (by omega) (by omega) hy0
    rw [← e, ← nI_1 s] at h
    have ne : ¬ lN y = 0 := fun w => by have := (lN_eq (a := y) (b := 0) hy (by omega)).mp w; omega
    refine And.intro (fun q => ?_) (And.intro (fun q => absurd q ne) (fun q => ?_))
    · have : y < 0 := (lN_lt (a := y) (b := 0) hy (by omega)).mp q
      omega
    · exact And.intro ne h
  have key : ∀ k x y s, y < 2 ^ k → k ≤ 31 → x < 2 ^ 31 → y < 2 ^ 31 → s + 2 * k + 2 ≤ 1000 → Nat.gcd x y = Nat.gcd a b → ab_At miX4_commonOf d 9 [none, none, none, none, some (vl (lN x)), none, some (vl (lN y)), none, some (vi (nI s))] [] M K := by
    intro k
    induction k with
    | zero =>
      intro x y s hy _ _ _ hs hg
      have : y = 0 := by simpa using hy
      subst this
      exact z x s hg (by omega)
    | succ k ih =>
      intro x y s hy hk hx hy2 hs hg
      rcases Nat.eq_zero_or_pos y with h0 | h0
      · subst h0
        exact z x s hg (by omega)
      · have hr := Nat.mod_lt x h0
        refine stp x y s hx hy2 h0 (by omega) ?_
        have hg2 : Nat.gcd y (x % y) = Nat.gcd a b := by rw [← gcd_st, hg]
        rcases Nat.eq_zero_or_pos (x % y) with h1 | h1
        · rw [h1] at hg2 ⊢
          exact z y (s + 1) hg2 (by omega)
        · refine stp y (x % y) (s + 1) hy2 (by omega) h1 (by omega) ?_
          have h2 := mod_half hr h1
          have h3 : y % (x % y) < 2 ^ k := by rw [Nat.pow_succ] at hy; omega
          exact ih (x % y) (y % (x % y)) (s + 1 + 1) h3 (by omega) (by omega) (by have := Nat.mod_lt y h1; omega) (by omega) (by rw [← gcd_st, hg2])
  exact key 31 a b 0 hb (by omega) ha hb (by omega) rfl
end Gcd
