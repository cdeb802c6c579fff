/-! ===== rows and texts: the reference ===== -/
def flx (f : Nat → Int32) (a n : Nat) (v : Int32) : Nat → Int32 := fun k => if a ≤ k ∧ k < a + n then v else f k
theorem flx_0 (f : Nat → Int32) (a : Nat) (v : Int32) : flx f a 0 v = f := by
  funext k
  exact if_neg (by omega)
theorem flx_s (f : Nat → Int32) (a n : Nat) (v : Int32) : upd (flx f a n v) (a + n) v = flx f a (n + 1) v := by
  funext k
  by_cases h : k = a + n
  · subst h
    rw [upd_eq]
    exact (if_pos ⟨by omega, by omega⟩).symm
  · rw [upd_ne h]
    unfold flx
    by_cases h2 : a ≤ k ∧ k < a + n
    · rw [if_pos h2, if_pos ⟨h2.1, by omega⟩]
    · rw [if_neg h2, if_neg (by omega)]
section RowsM
variable {d : Nat} {M : ab_M} {K : ab_K}
/-- in(nI j, 0, nI n - 1) -/
theorem c_inP {j n : Nat} {u v : Int64} (hu : u = (nI 0).toInt64) (hv : v = (nI n - nI 1).toInt64) (h : j < n) (hn : n < 2 ^ 30) (hK : K (some (.inl 1)) M) : ab_Call d 161 [vl (nI j).toInt64, vl u, vl v] M K :=
  c_in1 (hi := n - 1) hu (by rw [hv, pk_sub (by omega)]) (Nat.zero_le _) (by omega) (by omega) hK
theorem m_isRow1 {j : Nat} (hj : j < 6) (hK : K (some (.inl 1)) M) : ab_Call (d + 1) 165 [vi (nI j)] M K := by
  refine caX10_isRow rfl (atX10_isRow ?_)
  exact c_inP (n := 6) rfl rfl hj (by omega) hK
theorem m_isRow0 {x : Int32} (hx : ∀ j, j < 6 → x ≠ nI j) (hK : K (some (.inl 0)) M) : ab_Call (d + 1) 165 [vi x] M K := by
  refine caX10_isRow rfl (atX10_isRow ?_)
  exact c_in0 (n := 6) rfl rfl (by omega) hx hK
theorem m_isText1 {j : Nat} (hj : j < 4) (hK : K (some (.inl 1)) M) : ab_Call (d + 1) 166 [vi (nI j)] M K := by
  refine caX10_isText rfl (atX10_isText ?_)
  exact c_inP (n := 4) rfl rfl hj (by omega) hK
theorem m_isText0 {x : Int32} (hx : ∀ j, j < 4 → x ≠ nI j) (hK : K (some (.inl 0)) M) : ab_Call (d + 1) 166 [vi x] M K := by
  refine caX10_isText rfl (atX10_isText ?_)
  exact c_in0 (n := 4) rfl rfl (by omega) hx hK
def rfM (M : ab_M) (f : Nat) : ab_M := ab_sI (ab_sI M 49 0 10 (nI f)) 57 0 f (M.1 57 0 f + nI 1)
theorem m_found {f : Nat} (h1 : 1 ≤ f) (h5 : f ≤ 5) (hK : K (some (.inl (-3))) (rfM M f)) : ab_Call d 162 [vr 49 0, vi (nI f)] M K := by
  refine caX10_found rfl (atX10_found ?_)
  refine ix_i f rfl (show f < 6 by omega) (ix_i f rfl (show f < 6 by omega) ?_)
  exact hK
theorem neg_m1 {x : Int32} (h : x = -1) : x < nI 0 := by rw [h]; decide
theorem M_row_bad {x y : Int32} (h : (∀ j, j < 6 → x ≠ nI j) ∨ nI 40 < y) (hK : K (some (vi (-1))) M) : ab_Call (d + 3) 167 [vr 49 0, vi x, vi y] M K := by
  refine ab_Call_nr (caX10_row rfl (atX10_row ?_))
  rcases ix_cases x (n := 6) (by omega) with ⟨j, hj, rfl⟩ | hno
  · refine m_isRow1 hj ?_
    rcases h with h | h
    · exact absurd rfl (h j hj)
    · exact And.intro (fun q => absurd q (fun q => i_lt_le h q)) (fun _ => hK)
  · exact m_isRow0 hno hK
theorem M_row_neg {j : Nat} {y : Int32} (hj : j < 6) (h : y < nI 0) (hK : K (some (vi (-3))) (rfM M 5)) : ab_Call (d + 3) 167 [vr 49 0, vi (nI j), vi y] M K := by
  refine ab_Call_nr (caX10_row rfl (atX10_row ?_))
  refine m_isRow1 hj ?_
  refine And.intro (fun _ => ?_) (fun q => absurd h (fun h => i_lt_le q (i_le_trans (Int32.le_of_lt h) (nI_le (by omega) (by omega)))))
  refine And.intro (fun q => absurd q (i_not_le h)) (fun _ => ?_)
  exact m_found (by omega) (by omega) hK
theorem M_row {j n : Nat} (hj : j < 6) (hn : n ≤ 40) (hK : K (some (vi (nI n))) (sR (ab_sI M 50 0 j (nI n)) 51 0 (flx (M.1 51 0) (40 * j) 40 (nI 0)))) : ab_Call (d + 3) 167 [vr 49 0, vi (nI j), vi (nI n)] M K := by
  refine ab_Call_nr (caX10_row rfl (atX10_row ?_))
  refine m_isRow1 hj ?_
  refine And.intro (fun _ => ?_) (fun q => absurd (nlt_use q) (by omega))
  refine And.intro (fun _ => ?_) (fun q => absurd q (nI_pos (by omega)))
  refine ix_i j rfl hj ?_
  generalize hM1 : ab_sI M 50 0 j (nI n) = M1
  have e1 : M.1 51 0 = M1.1 51 0 := by rw [← hM1, sI_g (by decide)]
  rw [e1, hM1] at hK
  have key : ∀ i, i ≤ 40 → ab_At miX10_row (d + 3) 34 [some (vr 49 0), some (vi (nI j)), some (vi (nI n)), some (vi (nI i))] [] (sR M1 51 0 (flx (M1.1 51 0) (40 * j) i (nI 0))) (fun r M => K (r.map ab_nr) M) := by
    refine up_ind fun i hi ih => ?_
    refine atX10_row ?_
    refine And.intro (fun h => ?_) (fun h => ?_)
    · have : i = 40 := by have := nle_use h; omega
      subst this
      exact hK
    · have hin := nlt_use h
      refine ix_i (40 * j + i) (by simp only [pk_mul, nI_add]) (show 40 * j + i < 240 by omega) ?_
      have := ih hin
      rw [← flx_s, ← sI_sR, ← nI_1] at this
      exact this
  have := key 0 (Nat.zero_le _)
  rw [flx_0, sR_self] at this
  exact this
theorem M_lay0 {x y v : Int32} (hx : ∀ j, j < 6 → x ≠ nI j) (hK : K (some (vi (-1))) M) : ab_Call (d + 4) 168 [vr 49 0, vi x, vi y, vi v] M K := by
  refine ab_Call_nr (caX10_lay rfl (atX10_lay ?_))
  exact m_isRow0 hx hK
theorem M_laym {j : Nat} {y v : Int32} (hj : j < 6) (hs : M.1 50 0 j = -1) (hK : K (some (vi (-3))) (rfM M 1)) : ab_Call (d + 4) 168 [vr 49 0, vi (nI j), vi y, vi v] M K := by
  refine ab_Call_nr (caX10_lay rfl (atX10_lay ?_))
  refine m_isRow1 hj (ix_i j rfl hj ?_)
  refine And.intro (fun q => absurd q (i_not_le (neg_m1 hs))) (fun _ => ?_)
  exact m_found (by omega) (by omega) hK
theorem M_layb {j n : Nat} {y v : Int32} (hj : j < 6) (hn : n ≤ 40) (hs : M.1 50 0 j = nI n) (hy : ∀ k, k < n → y ≠ nI k) (hK : K (some (vi (-3))) (rfM M 2)) : ab_Call (d + 4) 168 [vr 49 0, vi (nI j), vi y, vi v] M K := by
  refine ab_Call_nr (caX10_lay rfl (atX10_lay ?_))
  refine m_isRow1 hj (ix_i j rfl hj ?_)
  refine And.intro (fun _ => ?_) (fun q => absurd q (by rw [hs]; exact nI_pos (by omega)))
  refine ix_i j rfl hj ?_
  refine c_in0 (n := n) rfl (by rw [hs]) (by omega) hy ?_
  exact m_found (by omega) (by omega) hK
theorem M_lay {j n k : Nat} {v : Int32} (hj : j < 6) (hn : n ≤ 40) (hs : M.1 50 0 j = nI n) (hk : k < n) (hK : K (some (vi 1)) (ab_sI (ab_sI M 51 0 (40 * j + k) v) 49 0 7 (M.1 51 0 (40 * j + k)))) : ab_Call (d + 4) 168 [vr 49 0, vi (nI j), vi (nI k), vi v] M K := by
  refine ab_Call_nr (caX10_lay rfl (atX10_lay ?_))
  refine m_isRow1 hj (ix_i j rfl hj ?_)
  refine And.intro (fun _ => ?_) (fun q => absurd q (by rw [hs]; exact nI_pos (by omega)))
  refine ix_i j rfl hj ?_
  refine c_inP (n := n) rfl (by rw [hs]) hk (by omega) ?_
  refine ix_i (40 * j + k) (by simp only [pk_mul, nI_add]) (show 40 * j + k < 240 by omega) ?_
  refine ix_i (40 * j + k) (by simp only [pk_mul, nI_add]) (show 40 * j + k < 240 by omega) ?_
  exact caX10_tell rfl (atX10_tell hK)
theorem M_at0 {x y : Int32} (hx : ∀ j, j < 6 → x ≠ nI j) (hK : K (some (vi (-1))) M) : ab_Call (d + 4) 169 [vr 49 0, vi x, vi y] M K := by
  refine ab_Call_nr (caX10_at rfl (atX10_at ?_))
  exact m_isRow0 hx hK
theorem M_atm {j : Nat} {y : Int32} (hj : j < 6) (hs : M.1 50 0 j = -1) (hK : K (some (vi (-3))) (rfM M 1)) : ab_Call (d + 4) 169 [vr 49 0, vi (nI j), vi y] M K := by
  refine ab_Call_nr (caX10_at rfl (atX10_at ?_))
  refine m_isRow1 hj (ix_i j rfl hj ?_)
  refine And.intro (fun q => absurd q (i_not_le (neg_m1 hs))) (fun _ => ?_)
  exact m_found (by omega) (by omega) hK
theorem M_atb {j n : Nat} {y : Int32} (hj : j < 6) (hn : n ≤ 40) (hs : M.1 50 0 j = nI n) (hy : ∀ k, k < n → y ≠ nI k) (hK : K (some (vi (-3))) (rfM M 2)) : ab_Call (d + 4) 169 [vr 49 0, vi (nI j), vi y] M K := by
  refine ab_Call_nr (caX10_at rfl (atX10_at ?_))
  refine m_isRow1 hj (ix_i j rfl hj ?_)
  refine And.intro (fun _ => ?_) (fun q => absurd q (by rw [hs]; exact nI_pos (by omega)))
  refine ix_i j rfl hj ?_
  refine c_in0 (n := n) rfl (by rw [hs]) (by omega) hy ?_
  exact m_found (by omega) (by omega) hK
theorem M_at {j n k : Nat} (hj : j < 6) (hn : n ≤ 40) (hs : M.1 50 0 j = nI n) (hk : k < n) (hK : K (some (vi 1)) (ab_sI M 49 0 7 (M.1 51 0 (40 * j + k)))) : ab_Call (d + 4) 169 [vr 49 0, vi (nI j), vi (nI k)] M K := by
  refine ab_Call_nr (caX10_at rfl (atX10_at ?_))
  refine m_isRow1 hj (ix_i j rfl hj ?_)
  refine And.intro (fun _ => ?_) (fun q => absurd q (by rw [hs]; exact nI_pos (by omega)))
  refine ix_i j rfl hj ?_
  refine c_inP (n := n) rfl (by rw [hs]) hk (by omega) ?_
  refine ix_i (40 * j + k) (by simp only [pk_mul, nI_add]) (show 40 * j + k < 240 by omega) ?_
  exact caX10_tell rfl (atX10_tell hK)
theorem M_tear0 {x : Int32} (hx : ∀ j, j < 6 → x ≠ nI j) (hK : K (some (vi (-1))) M) : ab_Call (d + 4) 170 [vr 49 0, vi x] M K := by
  refine ab_Call_nr (caX10_tear rfl (atX10_tear ?_))
  exact m_isRow0 hx hK
theorem M_tearm {j : Nat} (hj : j < 6) (hs : M.1 50 0 j = -1) (hK : K (some (vi (-3))) (rfM M 1)) : ab_Call (d + 4) 170 [vr 49 0, vi (nI j)] M K := by
  refine ab_Call_nr (caX10_tear rfl (atX10_tear ?_))
  refine m_isRow1 hj (ix_i j rfl hj ?_)
  refine And.intro (fun q => absurd q (i_not_le (neg_m1 hs))) (fun _ => ?_)
  exact m_found (by omega) (by omega) hK
theorem M_tear {j n : Nat} (hj : j < 6) (hn : n ≤ 40) (hs : M.1 50 0 j = nI n) (hK : K (some (vi 1)) (ab_sI M 50 0 j (-1))) : ab_Call (d + 4) 170 [vr 49 0, vi (nI j)] M K := by
  refine ab_Call_nr (caX10_tear rfl (atX10_tear ?_))
  refine m_isRow1 hj (ix_i j rfl hj ?_)
  refine And.intro (fun _ => ?_) (fun q => absurd q (by rw [hs]; exact nI_pos (by omega)))
  exact ix_i j rfl hj hK
end RowsM
