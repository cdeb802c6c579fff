/-! ===== Shelf ===== -/
/-- a row's first n places are v, the others as they were -/
def flr (f : Nat → Int32) (n : Nat) (v : Int32) : Nat → Int32 := fun k => if k < n then v else f k
theorem flr_0 (f : Nat → Int32) (v : Int32) : flr f 0 v = f := by funext k; simp [flr]
theorem flr_s (f : Nat → Int32) (n : Nat) (v : Int32) : upd (flr f n v) n v = flr f (n + 1) v := by
  funext k
  by_cases h : k = n
  · subst h; simp [flr, upd]
  · simp only [upd, flr, if_neg h]
    by_cases h2 : k < n
    · rw [if_pos h2, if_pos (by omega)]
    · rw [if_neg h2, if_neg (by omega)]
theorem c_openR {d r n : Nat} {v : Int32} {M : ab_M} {K : ab_K} (hr : r < 6) (hn : n ≤ 40) (hK : K none (sR (ab_sI M 4 0 r (nI n)) 3 r (flr (M.1 3 r) n v))) : ab_Call d 87 [vr 1 0, vi (nI r), vi (nI n), vi v] M K := by
  refine caX7_open rfl (atX7_open ?_)
  refine ix_i r rfl hr ?_
  generalize hM1 : ab_sI M 4 0 r (nI n) = M1
  have e1 : M.1 3 r = M1.1 3 r := by rw [← hM1, sI_g (by decide)]
  rw [e1, hM1] at hK
  have key : ∀ j, j ≤ n → ab_At miX7_open d 10 [some (vr 1 0), some (vi (nI r)), some (vi (nI n)), some (vi v), some (vi (nI j))] [] (sR M1 3 r (flr (M1.1 3 r) j v)) K := by
    refine up_ind fun j hj ih => ?_
    refine atX7_open ?_
    refine And.intro (fun h => ?_) (fun h => ?_)
    · have : j = n := by have := nle_use h; omega
      subst this
      exact hK
    · have hjn := nlt_use h
      refine ix_i r rfl hr (ix_i j rfl (show j < 40 by omega) ?_)
      have := ih hjn
      rw [← flr_s, ← sI_sR, ← nI_1] at this
      exact this
  have := key 0 (Nat.zero_le n)
  rw [flr_0, sR_self] at this
  exact this
