/-! ===== rows and texts: the class ===== -/
section RowsC
variable {d : Nat} {M : ab_M} {K : ab_K}
theorem c_hasR1 {j : Nat} (hj : j < 6) (hK : K (some (.inl 1)) M) : ab_Call d 83 [vr 1 0, vi (nI j)] M K := by
  refine caX7_has rfl (atX7_has ?_)
  refine And.intro (fun h => absurd h (nI_pos (by omega))) (fun _ => ?_)
  exact And.intro (fun h => absurd h (nI_ge hj (by omega))) (fun _ => hK)
theorem c_hasR0 {x : Int32} (hx : ∀ j, j < 6 → x ≠ nI j) (hK : K (some (.inl 0)) M) : ab_Call d 83 [vr 1 0, vi x] M K := by
  refine caX7_has rfl (atX7_has ?_)
  refine And.intro (fun _ => hK) (fun h => ?_)
  exact And.intro (fun _ => hK) (fun h2 => absurd h2 (fun h2 => (ix_no (by omega) hx).elim (fun q => i_lt_le q h) (fun q => i_lt_le h2 q)))
theorem c_hasT1 {j : Nat} (hj : j < 4) (hK : K (some (.inl 1)) M) : ab_Call d 83 [vr 5 0, vi (nI j)] M K := by
  refine caX7_has rfl (atX7_has ?_)
  refine And.intro (fun h => absurd h (nI_pos (by omega))) (fun _ => ?_)
  exact And.intro (fun h => absurd h (nI_ge hj (by omega))) (fun _ => hK)
theorem c_hasT0 {x : Int32} (hx : ∀ j, j < 4 → x ≠ nI j) (hK : K (some (.inl 0)) M) : ab_Call d 83 [vr 5 0, vi x] M K := by
  refine caX7_has rfl (atX7_has ?_)
  refine And.intro (fun _ => hK) (fun h => ?_)
  exact And.intro (fun _ => hK) (fun h2 => absurd h2 (fun h2 => (ix_no (by omega) hx).elim (fun q => i_lt_le q h) (fun q => i_lt_le h2 q)))
/-- refuse(f) -/
def rfC (M : ab_M) (f : Nat) : ab_M := ab_sI (ab_sI M 0 0 13 (nI f)) 48 0 f (M.1 48 0 f + nI 1)
theorem c_refuse {f : Nat} (h1 : 1 ≤ f) (h5 : f ≤ 5) (hK : K (some (.inl (-3))) (rfC M f)) : ab_Call d 150 [vr 0 0, vi (nI f)] M K := by
  refine caX9_refuse rfl (atX9_refuse ?_)
  refine And.intro (fun h => absurd (nlt_use h) (by omega)) (fun _ => And.intro (fun h => absurd (nlt_use h) (by omega)) (fun _ => ?_))
  refine ix_i f rfl (show f < 6 by omega) (ix_i f rfl (show f < 6 by omega) ?_)
  exact hK
/-- refusalOf(shelf, r): nothing to refuse; BAD; NOTHING -/
theorem c_refR1 {j n : Nat} (hj : j < 6) (hn : n ≤ 40) (hs : M.1 4 0 j = nI n) (hK : K (some (.inl 0)) M) : ab_Call (d + 1) 153 [vr 0 0, vr 1 0, vi (nI j)] M K := by
  refine caX9_refusalOf rfl (atX9_refusalOf ?_)
  refine c_hasR1 hj ?_
  refine caX7_isThere rfl (atX7_isThere ?_)
  refine ix_i j rfl hj ?_
  refine And.intro (fun h => ?_) (fun _ => hK)
  rw [hs] at h
  exact absurd (congrArg Int32.toInt h) (by rw [nI_toInt (by omega)]; show ¬ (n : Int) = -1; omega)
theorem c_refR0 {x : Int32} (hx : ∀ j, j < 6 → x ≠ nI j) (hK : K (some (.inl (-1))) M) : ab_Call (d + 1) 153 [vr 0 0, vr 1 0, vi x] M K := by
  refine caX9_refusalOf rfl (atX9_refusalOf ?_)
  exact c_hasR0 hx hK
theorem c_refRm {j : Nat} (hj : j < 6) (hs : M.1 4 0 j = -1) (hK : K (some (.inl (-3))) (rfC M 1)) : ab_Call (d + 1) 153 [vr 0 0, vr 1 0, vi (nI j)] M K := by
  refine caX9_refusalOf rfl (atX9_refusalOf ?_)
  refine c_hasR1 hj ?_
  refine caX7_isThere rfl (atX7_isThere ?_)
  refine ix_i j rfl hj ?_
  refine And.intro (fun _ => ?_) (fun h => absurd hs h)
  exact c_refuse (by omega) (by omega) hK
theorem c_refT1 {j n : Nat} (hj : j < 4) (hn : n ≤ 80) (hs : M.1 8 0 j = nI n) (hK : K (some (.inl 0)) M) : ab_Call (d + 1) 153 [vr 0 0, vr 5 0, vi (nI j)] M K := by
  refine caX9_refusalOf rfl (atX9_refusalOf ?_)
  refine c_hasT1 hj ?_
  refine caX7_isThere rfl (atX7_isThere ?_)
  refine ix_i j rfl hj ?_
  refine And.intro (fun h => ?_) (fun _ => hK)
  rw [hs] at h
  exact absurd (congrArg Int32.toInt h) (by rw [nI_toInt (by omega)]; show ¬ (n : Int) = -1; omega)
theorem c_refT0 {x : Int32} (hx : ∀ j, j < 4 → x ≠ nI j) (hK : K (some (.inl (-1))) M) : ab_Call (d + 1) 153 [vr 0 0, vr 5 0, vi x] M K := by
  refine caX9_refusalOf rfl (atX9_refusalOf ?_)
  exact c_hasT0 hx hK
theorem c_refTm {j : Nat} (hj : j < 4) (hs : M.1 8 0 j = -1) (hK : K (some (.inl (-3))) (rfC M 1)) : ab_Call (d + 1) 153 [vr 0 0, vr 5 0, vi (nI j)] M K := by
  refine caX9_refusalOf rfl (atX9_refusalOf ?_)
  refine c_hasT1 hj ?_
  refine caX7_isThere rfl (atX7_isThere ?_)
  refine ix_i j rfl hj ?_
  refine And.intro (fun _ => ?_) (fun h => absurd hs h)
  exact c_refuse (by omega) (by omega) hK
/-- row(r, n) -/
theorem C_row_bad {x y : Int32} (h : (∀ j, j < 6 → x ≠ nI j) ∨ nI 40 < y) (hK : K (some (vi (-1))) M) : ab_Call (d + 3) 103 [vr 0 0, vi x, vi y] M K := by
  refine ab_Call_nr (caX9_row rfl (atX9_row ?_))
  rcases ix_cases x (n := 6) (by omega) with ⟨j, hj, rfl⟩ | hno
  · refine c_hasR1 hj ?_
    rcases h with h | h
    · exact absurd rfl (h j hj)
    · exact And.intro (fun q => absurd q (fun q => i_lt_le h q)) (fun _ => hK)
  · exact c_hasR0 hno hK
theorem C_row_neg {j : Nat} {y : Int32} (hj : j < 6) (h : y < nI 0) (hK : K (some (vi (-3))) (rfC M 5)) : ab_Call (d + 3) 103 [vr 0 0, vi (nI j), vi y] M K := by
  refine ab_Call_nr (caX9_row rfl (atX9_row ?_))
  refine c_hasR1 hj ?_
  refine And.intro (fun _ => ?_) (fun q => absurd h (fun h => i_lt_le q (i_le_trans (Int32.le_of_lt h) (nI_le (by omega) (by omega)))))
  refine And.intro (fun q => absurd q (i_not_le h)) (fun _ => ?_)
  exact c_refuse (by omega) (by omega) hK
theorem C_row {j n : Nat} (hj : j < 6) (hn : n ≤ 40) (hK : K (some (vi (nI n))) (sR (ab_sI M 4 0 j (nI n)) 3 j (flr (M.1 3 j) n (nI 0)))) : ab_Call (d + 3) 103 [vr 0 0, vi (nI j), vi (nI n)] M K := by
  refine ab_Call_nr (caX9_row rfl (atX9_row ?_))
  refine c_hasR1 hj ?_
  refine And.intro (fun _ => ?_) (fun q => absurd (nlt_use q) (by omega))
  refine And.intro (fun _ => ?_) (fun q => absurd q (nI_pos (by omega)))
  exact c_openR hj hn hK
/-- refusalOf(shelf, r, i) -/
theorem c_re3R1 {j n k : Nat} (hj : j < 6) (hn : n ≤ 40) (hs : M.1 4 0 j = nI n) (hk : k < n) (hK : K (some (.inl 0)) M) : ab_Call (d + 2) 154 [vr 0 0, vr 1 0, vi (nI j), vi (nI k)] M K := by
  refine caX9_refusalOf_ rfl (atX9_refusalOf_ ?_)
  refine c_refR1 hj hn hs ?_
  refine caX7_holds rfl (atX7_holds ?_)
  refine And.intro (fun h => absurd h (nI_pos (by omega))) (fun _ => ix_i j rfl hj ?_)
  rw [hs]
  exact And.intro (fun h => absurd h (nI_ge hk (by omega))) (fun _ => hK)
theorem c_re3R0 {x y : Int32} (hx : ∀ j, j < 6 → x ≠ nI j) (hK : K (some (.inl (-1))) M) : ab_Call (d + 2) 154 [vr 0 0, vr 1 0, vi x, vi y] M K := by
  refine caX9_refusalOf_ rfl (atX9_refusalOf_ ?_)
  exact c_refR0 hx hK
theorem c_re3Rm {j : Nat} {y : Int32} (hj : j < 6) (hs : M.1 4 0 j = -1) (hK : K (some (.inl (-3))) (rfC M 1)) : ab_Call (d + 2) 154 [vr 0 0, vr 1 0, vi (nI j), vi y] M K := by
  refine caX9_refusalOf_ rfl (atX9_refusalOf_ ?_)
  exact c_refRm hj hs hK
theorem c_re3Rb {j n : Nat} {y : Int32} (hj : j < 6) (hn : n ≤ 40) (hs : M.1 4 0 j = nI n) (hy : ∀ k, k < n → y ≠ nI k) (hK : K (some (.inl (-3))) (rfC M 2)) : ab_Call (d + 2) 154 [vr 0 0, vr 1 0, vi (nI j), vi y] M K := by
  refine caX9_refusalOf_ rfl (atX9_refusalOf_ ?_)
  refine c_refR1 hj hn hs ?_
  refine caX7_holds rfl (atX7_holds ?_)
  refine And.intro (fun _ => ?_) (fun h => ix_i j rfl hj ?_)
  · exact c_refuse (by omega) (by omega) hK
  · skip
    rw [hs]
    exact And.intro (fun _ => c_refuse (by omega) (by omega) hK) (fun h2 => absurd h2 (fun h2 => (ix_no (by omega) hy).elim (fun q => i_lt_le q h) (fun q => i_lt_le h2 q)))
theorem c_re3T1 {j n k : Nat} (hj : j < 4) (hn : n ≤ 80) (hs : M.1 8 0 j = nI n) (hk : k < n) (hK : K (some (.inl 0)) M) : ab_Call (d + 2) 154 [vr 0 0, vr 5 0, vi (nI j), vi (nI k)] M K := by
  refine caX9_refusalOf_ rfl (atX9_refusalOf_ ?_)
  refine c_refT1 hj hn hs ?_
  refine caX7_holds rfl (atX7_holds ?_)
  refine And.intro (fun h => absurd h (nI_pos (by omega))) (fun _ => ix_i j rfl hj ?_)
  rw [hs]
  exact And.intro (fun h => absurd h (nI_ge hk (by omega))) (fun _ => hK)
theorem c_re3T0 {x y : Int32} (hx : ∀ j, j < 4 → x ≠ nI j) (hK : K (some (.inl (-1))) M) : ab_Call (d + 2) 154 [vr 0 0, vr 5 0, vi x, vi y] M K := by
  refine caX9_refusalOf_ rfl (atX9_refusalOf_ ?_)
  exact c_refT0 hx hK
theorem c_re3Tm {j : Nat} {y : Int32} (hj : j < 4) (hs : M.1 8 0 j = -1) (hK : K (some (.inl (-3))) (rfC M 1)) : ab_Call (d + 2) 154 [vr 0 0, vr 5 0, vi (nI j), vi y] M K := by
  refine caX9_refusalOf_ rfl (atX9_refusalOf_ ?_)
  exact c_refTm hj hs hK
theorem c_re3Tb {j n : Nat} {y : Int32} (hj : j < 4) (hn : n ≤ 80) (hs : M.1 8 0 j = nI n) (hy : ∀ k, k < n → y ≠ nI k) (hK : K (some (.inl (-3))) (rfC M 2)) : ab_Call (d + 2) 154 [vr 0 0, vr 5 0, vi (nI j), vi y] M K := by
  refine caX9_refusalOf_ rfl (atX9_refusalOf_ ?_)
  refine c_refT1 hj hn hs ?_
  refine caX7_holds rfl (atX7_holds ?_)
  refine And.intro (fun _ => ?_) (fun h => ix_i j rfl hj ?_)
  · exact c_refuse (by omega) (by omega) hK
  · skip
    rw [hs]
    exact And.intro (fun _ => c_refuse (by omega) (by omega) hK) (fun h2 => absurd h2 (fun h2 => (ix_no (by omega) hy).elim (fun q => i_lt_le q h) (fun q => i_lt_le h2 q)))
/-- lay, at, tear -/
theorem C_lay0 {x y v : Int32} (hx : ∀ j, j < 6 → x ≠ nI j) (hK : K (some (vi (-1))) M) : ab_Call (d + 4) 104 [vr 0 0, vi x, vi y, vi v] M K := by
  refine ab_Call_nr (caX9_lay rfl (atX9_lay ?_))
  exact c_re3R0 hx hK
theorem C_laym {j : Nat} {y v : Int32} (hj : j < 6) (hs : M.1 4 0 j = -1) (hK : K (some (vi (-3))) (rfC M 1)) : ab_Call (d + 4) 104 [vr 0 0, vi (nI j), vi y, vi v] M K := by
  refine ab_Call_nr (caX9_lay rfl (atX9_lay ?_))
  exact c_re3Rm hj hs hK
theorem C_layb {j n : Nat} {y v : Int32} (hj : j < 6) (hn : n ≤ 40) (hs : M.1 4 0 j = nI n) (hy : ∀ k, k < n → y ≠ nI k) (hK : K (some (vi (-3))) (rfC M 2)) : ab_Call (d + 4) 104 [vr 0 0, vi (nI j), vi y, vi v] M K := by
  refine ab_Call_nr (caX9_lay rfl (atX9_lay ?_))
  exact c_re3Rb hj hn hs hy hK
theorem C_lay {j n k : Nat} {v : Int32} (hj : j < 6) (hn : n ≤ 40) (hs : M.1 4 0 j = nI n) (hk : k < n) (hK : K (some (vi 1)) (ab_sI (ab_sI M 3 j k v) 0 0 14 (M.1 3 j k))) : ab_Call (d + 4) 104 [vr 0 0, vi (nI j), vi (nI k), vi v] M K := by
  refine ab_Call_nr (caX9_lay rfl (atX9_lay ?_))
  refine c_re3R1 hj hn hs hk ?_
  refine caX7_exchange rfl (atX7_exchange ?_)
  refine ix_i j rfl hj (ix_i k rfl (show k < 40 by omega) ?_)
  refine ix_i j rfl hj (ix_i k rfl (show k < 40 by omega) ?_)
  exact caX9_tell rfl (atX9_tell hK)
theorem C_at0 {x y : Int32} (hx : ∀ j, j < 6 → x ≠ nI j) (hK : K (some (vi (-1))) M) : ab_Call (d + 4) 105 [vr 0 0, vi x, vi y] M K := by
  refine ab_Call_nr (caX9_at rfl (atX9_at ?_))
  exact c_re3R0 hx hK
theorem C_atm {j : Nat} {y : Int32} (hj : j < 6) (hs : M.1 4 0 j = -1) (hK : K (some (vi (-3))) (rfC M 1)) : ab_Call (d + 4) 105 [vr 0 0, vi (nI j), vi y] M K := by
  refine ab_Call_nr (caX9_at rfl (atX9_at ?_))
  exact c_re3Rm hj hs hK
theorem C_atb {j n : Nat} {y : Int32} (hj : j < 6) (hn : n ≤ 40) (hs : M.1 4 0 j = nI n) (hy : ∀ k, k < n → y ≠ nI k) (hK : K (some (vi (-3))) (rfC M 2)) : ab_Call (d + 4) 105 [vr 0 0, vi (nI j), vi y] M K := by
  refine ab_Call_nr (caX9_at rfl (atX9_at ?_))
  exact c_re3Rb hj hn hs hy hK
theorem C_at {j n k : Nat} (hj : j < 6) (hn : n ≤ 40) (hs : M.1 4 0 j = nI n) (hk : k < n) (hK : K (some (vi 1)) (ab_sI M 0 0 14 (M.1 3 j k))) : ab_Call (d + 4) 105 [vr 0 0, vi (nI j), vi (nI k)] M K := by
  refine ab_Call_nr (caX9_at rfl (atX9_at ?_))
  refine c_re3R1 hj hn hs hk ?_
  refine ix_i j rfl hj (ix_i k rfl (show k < 40 by omega) ?_)
  exact caX9_tell rfl (atX9_tell hK)
theorem C_tear0 {x : Int32} (hx : ∀ j, j < 6 → x ≠ nI j) (hK : K (some (vi (-1))) M) : ab_Call (d + 4) 106 [vr 0 0, vi x] M K := by
  refine ab_Call_nr (caX9_tear rfl (atX9_tear ?_))
  exact c_refR0 hx hK
theorem C_tearm {j : Nat} (hj : j < 6) (hs : M.1 4 0 j = -1) (hK : K (some (vi (-3))) (rfC M 1)) : ab_Call (d + 4) 106 [vr 0 0, vi (nI j)] M K := by
  refine ab_Call_nr (caX9_tear rfl (atX9_tear ?_))
  exact c_refRm hj hs hK
theorem C_tear {j n : Nat} (hj : j < 6) (hn : n ≤ 40) (hs : M.1 4 0 j = nI n) (hK : K (some (vi 1)) (ab_sI M 4 0 j (-1))) : ab_Call (d + 4) 106 [vr 0 0, vi (nI j)] M K := by
  refine ab_Call_nr (caX9_tear rfl (atX9_tear ?_))
  refine c_refR1 hj hn hs ?_
  refine caX7_remove rfl (atX7_remove ?_)
  exact ix_i j rfl hj hK
end RowsC
