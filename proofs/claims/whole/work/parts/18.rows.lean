/-! ===== the reference: copying, means, texts ===== -/
def cpx (f : Nat → Int32) (a b lo hi : Nat) : Nat → Int32 := fun x => if b + lo ≤ x ∧ x < b + hi then f (a + (x - b)) else f x
theorem cpx_e (f : Nat → Int32) (a b n : Nat) : cpx f a b n n = f := by
  funext x
  exact if_neg (by omega)
theorem cpx_up {f : Nat → Int32} {a b k : Nat} (h : a + k < b ∨ b + k ≤ a + k) : upd (cpx f a b 0 k) (b + k) (cpx f a b 0 k (a + k)) = cpx f a b 0 (k + 1) := by
  funext x
  have e : cpx f a b 0 k (a + k) = f (a + k) := if_neg (by omega)
  rw [e]
  by_cases hx : x = b + k
  · subst hx
    rw [upd_eq]
    unfold cpx
    rw [if_pos ⟨by omega, by omega⟩, Nat.add_sub_cancel_left]
  · rw [upd_ne hx]
    unfold cpx
    by_cases h2 : b + 0 ≤ x ∧ x < b + k
    · rw [if_pos h2, if_pos ⟨h2.1, by omega⟩]
    · rw [if_neg h2, if_neg (by omega)]
theorem cpx_dn {f : Nat → Int32} {a b n k : Nat} (hk : k < n) (h : a + (n - 1 - k) < b + (n - k) ∨ b + n ≤ a + (n - 1 - k)) : upd (cpx f a b (n - k) n) (b + (n - 1 - k)) (cpx f a b (n - k) n (a + (n - 1 - k))) = cpx f a b (n - (k + 1)) n := by
  funext x
  have e : cpx f a b (n - k) n (a + (n - 1 - k)) = f (a + (n - 1 - k)) := if_neg (by omega)
  rw [e]
  by_cases hx : x = b + (n - 1 - k)
  · subst hx
    rw [upd_eq]
    unfold cpx
    rw [if_pos ⟨by omega, by omega⟩, Nat.add_sub_cancel_left]
  · rw [upd_ne hx]
    unfold cpx
    by_cases h2 : b + (n - k) ≤ x ∧ x < b + n
    · rw [if_pos h2, if_pos ⟨by omega, h2.2⟩]
    · rw [if_neg h2, if_neg (by omega)]
section RowsM2
variable {d : Nat} {M : ab_M} {K : ab_K}
theorem M_copy0 {x i y j n : Int32} (h : (∀ k, k < 6 → x ≠ nI k) ∨ ∀ k, k < 6 → y ≠ nI k) (hK : K (some (vi (-1))) M) : ab_Call (d + 4) 171 [vr 49 0, vi x, vi i, vi y, vi j, vi n] M K := by
  refine ab_Call_nr (caX10_copy rfl (atX10_copy ?_))
  rcases ix_cases x (n := 6) (by omega) with ⟨k, hk, rfl⟩ | hno
  · refine m_isRow1 hk ?_
    rcases h with h | h
    · exact absurd rfl (h k hk)
    · exact m_isRow0 h hK
  · exact m_isRow0 hno hK
theorem M_copyn {r t : Nat} {i j n : Int32} (hr : r < 6) (ht : t < 6) (hn : n < nI 0) (hK : K (some (vi (-3))) (rfM M 5)) : ab_Call (d + 4) 171 [vr 49 0, vi (nI r), vi i, vi (nI t), vi j, vi n] M K := by
  refine ab_Call_nr (caX10_copy rfl (atX10_copy ?_))
  refine m_isRow1 hr (m_isRow1 ht ?_)
  refine And.intro (fun q => absurd q (i_not_le hn)) (fun _ => ?_)
  exact m_found (by omega) (by omega) hK
theorem M_copym {r t c : Nat} {i j : Int32} (hr : r < 6) (ht : t < 6) (hc : c < 2 ^ 31) (h : M.1 50 0 r = -1 ∨ ((∃ n, n ≤ 40 ∧ M.1 50 0 r = nI n) ∧ M.1 50 0 t = -1)) (hK : K (some (vi (-3))) (rfM M 1)) : ab_Call (d + 4) 171 [vr 49 0, vi (nI r), vi i, vi (nI t), vi j, vi (nI c)] M K := by
  refine ab_Call_nr (caX10_copy rfl (atX10_copy ?_))
  refine m_isRow1 hr (m_isRow1 ht ?_)
  refine And.intro (fun _ => ?_) (fun q => absurd q (nI_pos hc))
  refine ix_i r rfl hr ?_
  rcases h with h | ⟨⟨n, hn, h⟩, h2⟩
  · refine And.intro (fun _ => ?_) (fun q => absurd q (i_not_le (neg_m1 h)))
    exact m_found (by omega) (by omega) hK
  · refine And.intro (fun q => absurd q (by rw [h]; exact nI_pos (by omega))) (fun _ => ix_i t rfl ht ?_)
    refine And.intro (fun q => absurd q (i_not_le (neg_m1 h2))) (fun _ => ?_)
    exact m_found (by omega) (by omega) hK
theorem lsum {a c : Nat} (ha : a < 2 ^ 31) (hc : c < 2 ^ 31) : (nI a).toInt64 + (nI c).toInt64 = lN (a + c) := by
  rw [nI_l ha, nI_l hc, lN_add]
theorem M_copyb {r t c n m : Nat} {i j : Int32} (hr : r < 6) (ht : t < 6) (hc : c < 2 ^ 31) (hn : n ≤ 40) (hm : m ≤ 40) (h1 : M.1 50 0 r = nI n) (h2 : M.1 50 0 t = nI m) (h : (∀ a, a + c ≤ n → i ≠ nI a) ∨ ∀ a, a + c ≤ m → j ≠ nI a) (hK : K (some (vi (-3))) (rfM M 2)) : ab_Call (d + 4) 171 [vr 49 0, vi (nI r), vi i, vi (nI t), vi j, vi (nI c)] M K := by
  refine ab_Call_nr (caX10_copy rfl (atX10_copy ?_))
  refine m_isRow1 hr (m_isRow1 ht ?_)
  refine And.intro (fun _ => ?_) (fun q => absurd q (nI_pos hc))
  refine ix_i r rfl hr ?_
  refine And.intro (fun q => absurd q (by rw [h1]; exact nI_pos (by omega))) (fun _ => ix_i t rfl ht ?_)
  refine And.intro (fun _ => ?_) (fun q => absurd q (by rw [h2]; exact nI_pos (by omega)))
  refine And.intro (fun _ => m_found (by omega) (by omega) hK) (fun hi0 => And.intro (fun _ => m_found (by omega) (by omega) hK) (fun hj0 => ix_i r rfl hr ?_))
  obtain ⟨a, ha, rfl⟩ := i_of_ge hi0
  obtain ⟨b, hb, rfl⟩ := i_of_ge hj0
  have e1 : (M.1 50 0 r).toInt64 = lN n := by rw [h1, nI_l (by omega)]
  have e2 : (M.1 50 0 t).toInt64 = lN m := by rw [h2, nI_l (by omega)]
  refine And.intro (fun q => ?_) (And.intro (fun q => ?_) (fun _ => m_found (by omega) (by omega) hK))
  all_goals
    have hac : a + c ≤ n := by
      rw [e1, lsum ha hc] at q
      first | (rw [pk_lLT (by omega) (by omega)] at q; omega) | (rw [pk_lEQ (by omega) (by omega)] at q; omega)
    refine ix_i t rfl ht ?_
    refine And.intro (fun q => ?_) (And.intro (fun q => ?_) (fun _ => m_found (by omega) (by omega) hK))
    all_goals
      have hbc : b + c ≤ m := by
        rw [e2, lsum hb hc] at q
        first | (rw [pk_lLT (by omega) (by omega)] at q; omega) | (rw [pk_lEQ (by omega) (by omega)] at q; omega)
      rcases h with h | h
      · exact absurd rfl (h a hac)
      · exact absurd rfl (h b hbc)
theorem M_copy {r t c n m a b : Nat} (hr : r < 6) (ht : t < 6) (hn : n ≤ 40) (hm : m ≤ 40) (h1 : M.1 50 0 r = nI n) (h2 : M.1 50 0 t = nI m) (ha : a + c ≤ n) (hb : b + c ≤ m) (hK : K (some (vi 1)) (sR M 51 0 (cpx (M.1 51 0) (40 * r + a) (40 * t + b) 0 c))) : ab_Call (d + 4) 171 [vr 49 0, vi (nI r), vi (nI a), vi (nI t), vi (nI b), vi (nI c)] M K := by
  refine ab_Call_nr (caX10_copy rfl (atX10_copy ?_))
  refine m_isRow1 hr (m_isRow1 ht ?_)
  refine And.intro (fun _ => ?_) (fun q => absurd q (nI_pos (by omega)))
  refine ix_i r rfl hr ?_
  refine And.intro (fun q => absurd q (by rw [h1]; exact nI_pos (by omega))) (fun _ => ix_i t rfl ht ?_)
  refine And.intro (fun _ => ?_) (fun q => absurd q (by rw [h2]; exact nI_pos (by omega)))
  refine And.intro (fun q => absurd q (nI_pos (by omega))) (fun _ => And.intro (fun q => absurd q (nI_pos (by omega))) (fun _ => ix_i r rfl hr ?_))
  have e1 : (M.1 50 0 r).toInt64 = lN n := by rw [h1, nI_l (by omega)]
  have e2 : (M.1 50 0 t).toInt64 = lN m := by rw [h2, nI_l (by omega)]
  have up : ∀ k, k ≤ c → b ≤ a → ab_At miX10_copy (d + 4) 104 [some (vr 49 0), some (vi (nI r)), some (vi (nI a)), some (vi (nI t)), some (vi (nI b)), some (vi (nI c)), some (vi (nI k))] [] (sR M 51 0 (cpx (M.1 51 0) (40 * r + a) (40 * t + b) 0 k)) (fun r M => K (r.map ab_nr) M) := by
    refine up_ind fun k hk ih hba => ?_
    refine atX10_copy ?_
    refine And.intro (fun h => ?_) (fun h => ?_)
    · have : k = c := by have := nle_use h; omega
      subst this
      exact hK
    · have hkc := nlt_use h
      refine And.intro (fun _ => ?_) (fun q => absurd (nlt_use q) (by omega))
      refine ix_i (40 * r + a + k) (by simp only [pk_mul, nI_add]) (show _ < 240 by omega) ?_
      refine ix_i (40 * t + b + k) (by simp only [pk_mul, nI_add]) (show _ < 240 by omega) ?_
      have := ih hkc hba
      rw [← cpx_up (by rcases Nat.lt_trichotomy r t with q | q | q <;> omega), ← sI_sR, ← nI_1] at this
      rw [sR_eq]
      exact this
  have dn : ∀ k, k ≤ c → a < b → ab_At miX10_copy (d + 4) 104 [some (vr 49 0), some (vi (nI r)), some (vi (nI a)), some (vi (nI t)), some (vi (nI b)), some (vi (nI c)), some (vi (nI k))] [] (sR M 51 0 (cpx (M.1 51 0) (40 * r + a) (40 * t + b) (c - k) c)) (fun r M => K (r.map ab_nr) M) := by
    refine up_ind fun k hk ih hab => ?_
    refine atX10_copy ?_
    refine And.intro (fun h => ?_) (fun h => ?_)
    · have : k = c := by have := nle_use h; omega
      subst this
      rw [Nat.sub_self]
      exact hK
    · have hkc := nlt_use h
      refine And.intro (fun q => absurd (nle_use q) (by omega)) (fun _ => ?_)
      have ep : nI c - nI 1 - nI k = nI (c - 1 - k) := by rw [pk_sub (by omega), pk_sub (by omega)]
      refine ix_i (40 * r + a + (c - 1 - k)) (by rw [ep]; simp only [pk_mul, nI_add]) (show _ < 240 by omega) ?_
      refine ix_i (40 * t + b + (c - 1 - k)) (by rw [ep]; simp only [pk_mul, nI_add]) (show _ < 240 by omega) ?_
      have := ih hkc hab
      rw [← cpx_dn hkc (by rcases Nat.lt_trichotomy r t with q | q | q <;> omega), ← sI_sR, ← nI_1] at this
      rw [sR_eq]
      exact this
  have go : ab_At miX10_copy (d + 4) 104 [some (vr 49 0), some (vi (nI r)), some (vi (nI a)), some (vi (nI t)), some (vi (nI b)), some (vi (nI c)), some (vi (nI 0))] [] M (fun r M => K (r.map ab_nr) M) := by
    rcases Nat.lt_or_ge a b with q | q
    · have := dn 0 (Nat.zero_le _) q
      rw [Nat.sub_zero, cpx_e, sR_self] at this
      exact this
    · have := up 0 (Nat.zero_le _) q
      rw [cpx_e, sR_self] at this
      exact this
  refine And.intro (fun q => ?_) (And.intro (fun q => ?_) (fun q => ?_))
  · refine ix_i t rfl ht ?_
    exact And.intro (fun _ => go) (And.intro (fun _ => go) (fun q => absurd q (by rw [e2, lsum (by omega) (by omega), pk_lLT (by omega) (by omega)]; omega)))
  · refine ix_i t rfl ht ?_
    exact And.intro (fun _ => go) (And.intro (fun _ => go) (fun q => absurd q (by rw [e2, lsum (by omega) (by omega), pk_lLT (by omega) (by omega)]; omega)))
  · exact absurd q (by rw [e1, lsum (by omega) (by omega), pk_lLT (by omega) (by omega)]; omega)
theorem M_mean0 {x : Int32} (hx : ∀ j, j < 6 → x ≠ nI j) (hK : K (some (vi (-1))) M) : ab_Call (d + 4) 172 [vr 49 0, vi x] M K := by
  refine ab_Call_nr (caX10_mean rfl (atX10_mean ?_))
  exact m_isRow0 hx hK
theorem M_meanm {j : Nat} (hj : j < 6) (hs : M.1 50 0 j = -1) (hK : K (some (vi (-3))) (rfM M 1)) : ab_Call (d + 4) 172 [vr 49 0, vi (nI j)] M K := by
  refine ab_Call_nr (caX10_mean rfl (atX10_mean ?_))
  refine m_isRow1 hj (ix_i j rfl hj ?_)
  refine And.intro (fun q => absurd q (i_not_le (neg_m1 hs))) (fun _ => ?_)
  exact m_found (by omega) (by omega) hK
theorem M_meanz {j : Nat} (hj : j < 6) (hs : M.1 50 0 j = nI 0) (hK : K (some (vi (-3))) (rfM M 4)) : ab_Call (d + 4) 172 [vr 49 0, vi (nI j)] M K := by
  refine ab_Call_nr (caX10_mean rfl (atX10_mean ?_))
  refine m_isRow1 hj (ix_i j rfl hj ?_)
  refine And.intro (fun _ => ix_i j rfl hj ?_) (fun q => absurd q (by rw [hs]; exact nI_pos (by omega)))
  refine And.intro (fun q => absurd hs q) (fun _ => ?_)
  exact m_found (by omega) (by omega) hK
theorem M_mean {j n : Nat} (hj : j < 6) (hn : n ≤ 40) (h0 : 0 < n) (hs : M.1 50 0 j = nI n) (hK : K (some (vi 1)) (ab_sI M 49 0 7 (smL (fun k => M.1 51 0 (40 * j + k)) n / (nI n).toInt64).toInt32)) : ab_Call (d + 4) 172 [vr 49 0, vi (nI j)] M K := by
  refine ab_Call_nr (caX10_mean rfl (atX10_mean ?_))
  refine m_isRow1 hj (ix_i j rfl hj ?_)
  refine And.intro (fun _ => ix_i j rfl hj ?_) (fun q => absurd q (by rw [hs]; exact nI_pos (by omega)))
  refine And.intro (fun _ => ?_) (fun q => absurd (hs.symm.trans q) (nI_ne0 h0 (by omega)))
  have key : ∀ i, i ≤ n → ab_At miX10_mean (d + 4) 44 [some (vr 49 0), some (vi (nI j)), some (vl (smL (fun k => M.1 51 0 (40 * j + k)) i)), none, some (vi (nI i))] [] M (fun r M => K (r.map ab_nr) M) := by
    refine up_ind fun i hi ih => ?_
    refine atX10_mean ?_
    refine ix_i j rfl hj ?_
    rw [hs]
    refine And.intro (fun h => ?_) (fun h => ?_)
    · have : i = n := by have := nle_use h; omega
      subst this
      refine ix_i j rfl hj ?_
      rw [hs]
      refine And.intro (lN_ne0 h0 (by omega)) ?_
      exact caX10_tell rfl (atX10_tell hK)
    · have hin := nlt_use h
      refine ix_i (40 * j + i) (by simp only [pk_mul, nI_add]) (show 40 * j + i < 240 by omega) ?_
      have := ih hin
      rw [← nI_1] at this
      exact this
  exact key 0 (Nat.zero_le _)
theorem M_text_bad {x y : Int32} (h : (∀ j, j < 4 → x ≠ nI j) ∨ nI 80 < y) (hK : K (some (vi (-1))) M) : ab_Call (d + 3) 173 [vr 49 0, vi x, vi y] M K := by
  refine ab_Call_nr (caX10_text rfl (atX10_text ?_))
  rcases ix_cases x (n := 4) (by omega) with ⟨j, hj, rfl⟩ | hno
  · refine m_isText1 hj ?_
    rcases h with h | h
    · exact absurd rfl (h j hj)
    · exact And.intro (fun q => absurd q (fun q => i_lt_le h q)) (fun _ => hK)
  · exact m_isText0 hno hK
theorem M_text_neg {j : Nat} {y : Int32} (hj : j < 4) (h : y < nI 0) (hK : K (some (vi (-3))) (rfM M 5)) : ab_Call (d + 3) 173 [vr 49 0, vi (nI j), vi y] M K := by
  refine ab_Call_nr (caX10_text rfl (atX10_text ?_))
  refine m_isText1 hj ?_
  refine And.intro (fun _ => ?_) (fun q => absurd h (fun h => i_lt_le q (i_le_trans (Int32.le_of_lt h) (nI_le (by omega) (by omega)))))
  refine And.intro (fun q => absurd q (i_not_le h)) (fun _ => ?_)
  exact m_found (by omega) (by omega) hK
theorem M_text {j n : Nat} (hj : j < 4) (hn : n ≤ 80) (hK : K (some (vi (nI n))) (sR (ab_sI M 52 0 j (nI n)) 53 0 (flx (M.1 53 0) (80 * j) 80 (nI 32)))) : ab_Call (d + 3) 173 [vr 49 0, vi (nI j), vi (nI n)] M K := by
  refine ab_Call_nr (caX10_text rfl (atX10_text ?_))
  refine m_isText1 hj ?_
  refine And.intro (fun _ => ?_) (fun q => absurd (nlt_use q) (by omega))
  refine And.intro (fun _ => ?_) (fun q => absurd q (nI_pos (by omega)))
  refine ix_i j rfl hj ?_
  generalize hM1 : ab_sI M 52 0 j (nI n) = M1
  have e1 : M.1 53 0 = M1.1 53 0 := by rw [← hM1, sI_g (by decide)]
  rw [e1, hM1] at hK
  have key : ∀ i, i ≤ 80 → ab_At miX10_text (d + 3) 34 [some (vr 49 0), some (vi (nI j)), some (vi (nI n)), some (vi (nI i))] [] (sR M1 53 0 (flx (M1.1 53 0) (80 * j) i (nI 32))) (fun r M => K (r.map ab_nr) M) := by
    refine up_ind fun i hi ih => ?_
    refine atX10_text ?_
    refine And.intro (fun h => ?_) (fun h => ?_)
    · have : i = 80 := by have := nle_use h; omega
      subst this
      exact hK
    · have hin := nlt_use h
      refine ix_i (80 * j + i) (by simp only [pk_mul, nI_add]) (show 80 * j + i < 320 by omega) ?_
      have := ih hin
      rw [← flx_s, ← sI_sR, ← nI_1] at this
      exact this
  have := key 0 (Nat.zero_le _)
  rw [flx_0, sR_self] at this
  exact this
theorem M_put0 {x y v : Int32} (hx : ∀ j, j < 4 → x ≠ nI j) (hK : K (some (vi (-1))) M) : ab_Call (d + 4) 174 [vr 49 0, vi x, vi y, vi v] M K := by
  refine ab_Call_nr (caX10_put rfl (atX10_put ?_))
  exact m_isText0 hx hK
theorem M_putm {j : Nat} {y v : Int32} (hj : j < 4) (hs : M.1 52 0 j = -1) (hK : K (some (vi (-3))) (rfM M 1)) : ab_Call (d + 4) 174 [vr 49 0, vi (nI j), vi y, vi v] M K := by
  refine ab_Call_nr (caX10_put rfl (atX10_put ?_))
  refine m_isText1 hj (ix_i j rfl hj ?_)
  refine And.intro (fun q => absurd q (i_not_le (neg_m1 hs))) (fun _ => ?_)
  exact m_found (by omega) (by omega) hK
theorem M_putb {j n : Nat} {y v : Int32} (hj : j < 4) (hn : n ≤ 80) (hs : M.1 52 0 j = nI n) (hy : ∀ k, k < n → y ≠ nI k) (hK : K (some (vi (-3))) (rfM M 2)) : ab_Call (d + 4) 174 [vr 49 0, vi (nI j), vi y, vi v] M K := by
  refine ab_Call_nr (caX10_put rfl (atX10_put ?_))
  refine m_isText1 hj (ix_i j rfl hj ?_)
  refine And.intro (fun _ => ix_i j rfl hj ?_) (fun q => absurd q (by rw [hs]; exact nI_pos (by omega)))
  refine c_in0 (n := n) rfl (by rw [hs]) (by omega) hy ?_
  exact m_found (by omega) (by omega) hK
theorem M_put {j n k : Nat} {v : Int32} (hj : j < 4) (hn : n ≤ 80) (hs : M.1 52 0 j = nI n) (hk : k < n) (hK : K (some (vi (M.1 53 0 (80 * j + k) + nI 1000))) (ab_sI M 53 0 (80 * j + k) v.toInt8.toInt32)) : ab_Call (d + 4) 174 [vr 49 0, vi (nI j), vi (nI k), vi v] M K := by
  refine ab_Call_nr (caX10_put rfl (atX10_put ?_))
  refine m_isText1 hj (ix_i j rfl hj ?_)
  refine And.intro (fun _ => ix_i j rfl hj ?_) (fun q => absurd q (by rw [hs]; exact nI_pos (by omega)))
  refine c_inP (n := n) rfl (by rw [hs]) hk (by omega) ?_
  refine ix_i (80 * j + k) (by simp only [pk_mul, nI_add]) (show 80 * j + k < 320 by omega) ?_
  exact ix_i (80 * j + k) (by simp only [pk_mul, nI_add]) (show 80 * j + k < 320 by omega) hK
end RowsM2
