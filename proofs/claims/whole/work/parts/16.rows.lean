/-! ===== rows and texts: copying, means, texts of the class ===== -/
theorem cp_i {x y z : Int32} {A B : Nat} {f : Nat → Nat → Nat → Prop} (a b n : Nat) (hx : x = nI a) (hy : y = nI b) (hz : z = nI n) (h1 : a + n ≤ A) (h2 : b + n ≤ B) (h : f a b n) : ∃ a' b' n', x = nI a' ∧ y = nI b' ∧ z = nI n' ∧ a' + n' ≤ A ∧ b' + n' ≤ B ∧ f a' b' n' := ⟨a, b, n, hx, hy, hz, h1, h2, h⟩
section RowsC2
variable {d : Nat} {M : ab_M} {K : ab_K}
theorem ne_m1 {n : Nat} (h : n < 2 ^ 31) : ¬ nI n = -1 := by
  intro q
  have := congrArg Int32.toInt q
  rw [nI_toInt h] at this
  have e : (-1 : Int32).toInt = -1 := by decide
  rw [e] at this
  omega
theorem c_openT {r n : Nat} {v : Int32} (hr : r < 4) (hn : n ≤ 80) (hK : K none (sR (ab_sI M 8 0 r (nI n)) 7 r (flr (M.1 7 r) n v))) : ab_Call d 87 [vr 5 0, vi (nI r), vi (nI n), vi v] M K := by
  refine caX7_open rfl (atX7_open ?_)
  refine ix_i r rfl hr ?_
  generalize hM1 : ab_sI M 8 0 r (nI n) = M1
  have e1 : M.1 7 r = M1.1 7 r := by rw [← hM1, sI_g (by decide)]
  rw [e1, hM1] at hK
  have key : ∀ j, j ≤ n → ab_At miX7_open d 10 [some (vr 5 0), some (vi (nI r)), some (vi (nI n)), some (vi v), some (vi (nI j))] [] (sR M1 7 r (flr (M1.1 7 r) j v)) K := by
    refine up_ind fun j hj ih => ?_
    refine atX7_open ?_
    refine And.intro (fun h => ?_) (fun h => ?_)
    · have : j = n := by have := nle_use h; omega
      subst this
      exact hK
    · have hjn := nlt_use h
      refine ix_i r rfl hr (ix_i j rfl (show j < if r = 4 then 0 else 80 by rw [if_neg (by omega)]; omega) ?_)
      have := ih hjn
      rw [← flr_s, ← sI_sR, ← nI_1] at this
      exact this
  have := key 0 (Nat.zero_le n)
  rw [flr_0, sR_self] at this
  exact this
/-- copy(r, i, to, j, n) -/
theorem c_isThR {j n : Nat} (hj : j < 6) (hn : n ≤ 40) (hs : M.1 4 0 j = nI n) (hK : K (some (.inl 1)) M) : ab_Call d 84 [vr 1 0, vi (nI j)] M K := by
  refine caX7_isThere rfl (atX7_isThere ?_)
  refine ix_i j rfl hj ?_
  exact And.intro (fun h => absurd (hs.symm.trans h) (ne_m1 (by omega))) (fun _ => hK)
theorem c_isThRm {j : Nat} (hj : j < 6) (hs : M.1 4 0 j = -1) (hK : K (some (.inl 0)) M) : ab_Call d 84 [vr 1 0, vi (nI j)] M K := by
  refine caX7_isThere rfl (atX7_isThere ?_)
  refine ix_i j rfl hj ?_
  exact And.intro (fun _ => hK) (fun h => absurd hs h)
theorem spn {n c : Nat} (hn : n ≤ 80) (hc : c < 2 ^ 31) : (nI n - nI c).toInt = (n : Int) - c := by
  rw [Int32.toInt_sub, nI_toInt (by omega), nI_toInt hc]
  exact Int.bmod_eq_of_le (by omega) (by omega)
theorem c_spanR {j n c a : Nat} (hj : j < 6) (hn : n ≤ 40) (hs : M.1 4 0 j = nI n) (h : a + c ≤ n) (hK : K (some (.inl 1)) M) : ab_Call d 86 [vr 1 0, vi (nI j), vi (nI a), vi (nI c)] M K := by
  refine caX7_spans rfl (atX7_spans ?_)
  refine And.intro (fun h => absurd h (nI_pos (by omega))) (fun _ => ix_i j rfl hj ?_)
  rw [hs]
  refine And.intro (fun q => ?_) (fun _ => hK)
  rw [Int32.lt_iff_toInt_lt, spn (by omega) (by omega), nI_toInt (by omega)] at q
  omega
theorem c_spanR0 {j n c : Nat} {y : Int32} (hj : j < 6) (hn : n ≤ 40) (hc : c < 2 ^ 31) (hs : M.1 4 0 j = nI n) (h : ∀ a, a + c ≤ n → y ≠ nI a) (hK : K (some (.inl 0)) M) : ab_Call d 86 [vr 1 0, vi (nI j), vi y, vi (nI c)] M K := by
  refine caX7_spans rfl (atX7_spans ?_)
  refine And.intro (fun _ => hK) (fun h0 => ix_i j rfl hj ?_)
  rw [hs]
  refine And.intro (fun _ => hK) (fun q => ?_)
  obtain ⟨a, ha, rfl⟩ := i_of_ge h0
  rw [Int32.le_iff_toInt_le, spn (by omega) hc, nI_toInt ha] at q
  exact absurd rfl (h a (by omega))
theorem C_copy0 {x i y j n : Int32} (h : (∀ k, k < 6 → x ≠ nI k) ∨ ∀ k, k < 6 → y ≠ nI k) (hK : K (some (vi (-1))) M) : ab_Call (d + 4) 107 [vr 0 0, vi x, vi i, vi y, vi j, vi n] M K := by
  refine ab_Call_nr (caX9_copy rfl (atX9_copy ?_))
  rcases ix_cases x (n := 6) (by omega) with ⟨k, hk, rfl⟩ | hno
  · refine c_hasR1 hk ?_
    rcases h with h | h
    · exact absurd rfl (h k hk)
    · exact c_hasR0 h hK
  · exact c_hasR0 hno hK
theorem C_copyn {r t : Nat} {i j n : Int32} (hr : r < 6) (ht : t < 6) (hn : n < nI 0) (hK : K (some (vi (-3))) (rfC M 5)) : ab_Call (d + 4) 107 [vr 0 0, vi (nI r), vi i, vi (nI t), vi j, vi n] M K := by
  refine ab_Call_nr (caX9_copy rfl (atX9_copy ?_))
  refine c_hasR1 hr (c_hasR1 ht ?_)
  refine And.intro (fun q => absurd q (i_not_le hn)) (fun _ => ?_)
  exact c_refuse (by omega) (by omega) hK
theorem C_copym {r t c : Nat} {i j : Int32} (hr : r < 6) (ht : t < 6) (hc : c < 2 ^ 31) (h : M.1 4 0 r = -1 ∨ ((∃ n, n ≤ 40 ∧ M.1 4 0 r = nI n) ∧ M.1 4 0 t = -1)) (hK : K (some (vi (-3))) (rfC M 1)) : ab_Call (d + 4) 107 [vr 0 0, vi (nI r), vi i, vi (nI t), vi j, vi (nI c)] M K := by
  refine ab_Call_nr (caX9_copy rfl (atX9_copy ?_))
  refine c_hasR1 hr (c_hasR1 ht ?_)
  refine And.intro (fun _ => ?_) (fun q => absurd q (nI_pos hc))
  rcases h with h | ⟨⟨n, hn, h⟩, h2⟩
  · refine c_isThRm hr h ?_
    exact c_refuse (by omega) (by omega) hK
  · refine c_isThR hr hn h (c_isThRm ht h2 ?_)
    exact c_refuse (by omega) (by omega) hK
theorem C_copyb {r t c n m : Nat} {i j : Int32} (hr : r < 6) (ht : t < 6) (hc : c < 2 ^ 31) (hn : n ≤ 40) (hm : m ≤ 40) (h1 : M.1 4 0 r = nI n) (h2 : M.1 4 0 t = nI m) (h : (∀ a, a + c ≤ n → i ≠ nI a) ∨ ((∃ a, a + c ≤ n ∧ i = nI a) ∧ ∀ a, a + c ≤ m → j ≠ nI a)) (hK : K (some (vi (-3))) (rfC M 2)) : ab_Call (d + 4) 107 [vr 0 0, vi (nI r), vi i, vi (nI t), vi j, vi (nI c)] M K := by
  refine ab_Call_nr (caX9_copy rfl (atX9_copy ?_))
  refine c_hasR1 hr (c_hasR1 ht ?_)
  refine And.intro (fun _ => ?_) (fun q => absurd q (nI_pos hc))
  refine c_isThR hr hn h1 (c_isThR ht hm h2 ?_)
  rcases h with h | ⟨⟨a, ha, rfl⟩, h⟩
  · refine c_spanR0 hr hn hc h1 h ?_
    exact c_refuse (by omega) (by omega) hK
  · refine c_spanR hr hn h1 ha (c_spanR0 ht hm hc h2 h ?_)
    exact c_refuse (by omega) (by omega) hK
theorem C_copy {r t c n m a b : Nat} (hr : r < 6) (ht : t < 6) (hn : n ≤ 40) (hm : m ≤ 40) (h1 : M.1 4 0 r = nI n) (h2 : M.1 4 0 t = nI m) (ha : a + c ≤ n) (hb : b + c ≤ m) (hK : K (some (vi 1)) (ab_sC M 3 r a 3 t b c)) : ab_Call (d + 4) 107 [vr 0 0, vi (nI r), vi (nI a), vi (nI t), vi (nI b), vi (nI c)] M K := by
  refine ab_Call_nr (caX9_copy rfl (atX9_copy ?_))
  refine c_hasR1 hr (c_hasR1 ht ?_)
  refine And.intro (fun _ => ?_) (fun q => absurd q (nI_pos (by omega)))
  refine c_isThR hr hn h1 (c_isThR ht hm h2 ?_)
  refine c_spanR hr hn h1 ha (c_spanR ht hm h2 hb ?_)
  refine ix_i r rfl hr (ix_i t rfl ht ?_)
  exact cp_i a b c rfl rfl rfl (show a + c ≤ 40 by omega) (show b + c ≤ 40 by omega) hK
/-- mean -/
def smL (f : Nat → Int32) : Nat → Int64
  | 0 => 0
  | k + 1 => smL f k + (f k).toInt64
theorem smL_cong {f g : Nat → Int32} : ∀ {n : Nat}, (∀ k, k < n → f k = g k) → smL f n = smL g n
  | 0, _ => rfl
  | n + 1, h => by rw [smL, smL, smL_cong (fun k hk => h k (by omega)), h n (by omega)]
theorem c_sumR {r n : Nat} (hr : r < 6) (hn : n ≤ 40) (hs : M.1 4 0 r = nI n) (hK : K (some (vl (smL (M.1 3 r) n))) M) : ab_Call d 91 [vr 1 0, vi (nI r)] M K := by
  refine caX7_sum rfl (atX7_sum ?_)
  have key : ∀ j, j ≤ n → ab_At miX7_sum d 5 [some (vr 1 0), some (vi (nI r)), some (vl (smL (M.1 3 r) j)), none, some (vi (nI j))] [] M K := by
    refine up_ind fun j hj ih => ?_
    refine atX7_sum ?_
    refine ix_i r rfl hr ?_
    rw [hs]
    refine And.intro (fun h => ?_) (fun h => ?_)
    · have : j = n := by have := nle_use h; omega
      subst this
      exact hK
    · have hjn := nlt_use h
      refine ix_i r rfl hr (ix_i j rfl (show j < 40 by omega) ?_)
      have := ih hjn
      rw [← nI_1] at this
      exact this
  exact key 0 (Nat.zero_le n)
theorem C_mean0 {x : Int32} (hx : ∀ j, j < 6 → x ≠ nI j) (hK : K (some (vi (-1))) M) : ab_Call (d + 4) 108 [vr 0 0, vi x] M K := by
  refine ab_Call_nr (caX9_mean rfl (atX9_mean ?_))
  exact c_refR0 hx hK
theorem C_meanm {j : Nat} (hj : j < 6) (hs : M.1 4 0 j = -1) (hK : K (some (vi (-3))) (rfC M 1)) : ab_Call (d + 4) 108 [vr 0 0, vi (nI j)] M K := by
  refine ab_Call_nr (caX9_mean rfl (atX9_mean ?_))
  exact c_refRm hj hs hK
theorem C_meanz {j : Nat} (hj : j < 6) (hs : M.1 4 0 j = nI 0) (hK : K (some (vi (-3))) (rfC M 4)) : ab_Call (d + 4) 108 [vr 0 0, vi (nI j)] M K := by
  refine ab_Call_nr (caX9_mean rfl (atX9_mean ?_))
  refine c_refR1 hj (Nat.zero_le _) hs ?_
  refine ix_i j rfl hj ?_
  rw [hs]
  refine And.intro (fun q => absurd rfl q) (fun _ => ?_)
  exact c_refuse (by omega) (by omega) hK
theorem lN_ne0 {n : Nat} (h0 : 0 < n) (h : n < 2 ^ 31) : ¬ (nI n).toInt64 = 0 := by
  rw [nI_l h]
  intro q
  exact absurd ((lN_eq h (by omega : 0 < 2 ^ 31)).mp q) (by omega)
theorem C_mean {j n : Nat} (hj : j < 6) (hn : n ≤ 40) (h0 : 0 < n) (hs : M.1 4 0 j = nI n) (hK : K (some (vi 1)) (ab_sI M 0 0 14 (smL (M.1 3 j) n / (nI n).toInt64).toInt32)) : ab_Call (d + 4) 108 [vr 0 0, vi (nI j)] M K := by
  refine ab_Call_nr (caX9_mean rfl (atX9_mean ?_))
  refine c_refR1 hj hn hs ?_
  refine ix_i j rfl hj ?_
  rw [hs]
  refine And.intro (fun _ => ?_) (fun q => absurd q (nI_ne0 h0 (by omega)))
  refine c_sumR hj hn hs ?_
  refine And.intro (lN_ne0 h0 (by omega)) ?_
  exact caX9_tell rfl (atX9_tell hK)
/-- texts -/
theorem C_text_bad {x y : Int32} (h : (∀ j, j < 4 → x ≠ nI j) ∨ nI 80 < y) (hK : K (some (vi (-1))) M) : ab_Call (d + 3) 109 [vr 0 0, vi x, vi y] M K := by
  refine ab_Call_nr (caX9_text rfl (atX9_text ?_))
  rcases ix_cases x (n := 4) (by omega) with ⟨j, hj, rfl⟩ | hno
  · refine c_hasT1 hj ?_
    rcases h with h | h
    · exact absurd rfl (h j hj)
    · exact And.intro (fun q => absurd q (fun q => i_lt_le h q)) (fun _ => hK)
  · exact c_hasT0 hno hK
theorem C_text_neg {j : Nat} {y : Int32} (hj : j < 4) (h : y < nI 0) (hK : K (some (vi (-3))) (rfC M 5)) : ab_Call (d + 3) 109 [vr 0 0, vi (nI j), vi y] M K := by
  refine ab_Call_nr (caX9_text rfl (atX9_text ?_))
  refine c_hasT1 hj ?_
  refine And.intro (fun _ => ?_) (fun q => absurd h (fun h => i_lt_le q (i_le_trans (Int32.le_of_lt h) (nI_le (by omega) (by omega)))))
  refine And.intro (fun q => absurd q (i_not_le h)) (fun _ => ?_)
  exact c_refuse (by omega) (by omega) hK
theorem C_text {j n : Nat} (hj : j < 4) (hn : n ≤ 80) (hK : K (some (vi (nI n))) (sR (ab_sI M 8 0 j (nI n)) 7 j (flr (M.1 7 j) n (nI 32)))) : ab_Call (d + 3) 109 [vr 0 0, vi (nI j), vi (nI n)] M K := by
  refine ab_Call_nr (caX9_text rfl (atX9_text ?_))
  refine c_hasT1 hj ?_
  refine And.intro (fun _ => ?_) (fun q => absurd (nlt_use q) (by omega))
  refine And.intro (fun _ => ?_) (fun q => absurd q (nI_pos (by omega)))
  exact c_openT hj hn hK
theorem C_put0 {x y v : Int32} (hx : ∀ j, j < 4 → x ≠ nI j) (hK : K (some (vi (-1))) M) : ab_Call (d + 4) 110 [vr 0 0, vi x, vi y, vi v] M K := by
  refine ab_Call_nr (caX9_put rfl (atX9_put ?_))
  exact c_re3T0 hx hK
theorem C_putm {j : Nat} {y v : Int32} (hj : j < 4) (hs : M.1 8 0 j = -1) (hK : K (some (vi (-3))) (rfC M 1)) : ab_Call (d + 4) 110 [vr 0 0, vi (nI j), vi y, vi v] M K := by
  refine ab_Call_nr (caX9_put rfl (atX9_put ?_))
  exact c_re3Tm hj hs hK
theorem C_putb {j n : Nat} {y v : Int32} (hj : j < 4) (hn : n ≤ 80) (hs : M.1 8 0 j = nI n) (hy : ∀ k, k < n → y ≠ nI k) (hK : K (some (vi (-3))) (rfC M 2)) : ab_Call (d + 4) 110 [vr 0 0, vi (nI j), vi y, vi v] M K := by
  refine ab_Call_nr (caX9_put rfl (atX9_put ?_))
  exact c_re3Tb hj hn hs hy hK
theorem C_put {j n k : Nat} {v : Int32} (hj : j < 4) (hn : n ≤ 80) (hs : M.1 8 0 j = nI n) (hk : k < n) (hK : K (some (vi (nI 1000 + M.1 7 j k))) (ab_sI M 7 j k v.toInt8.toInt32)) : ab_Call (d + 4) 110 [vr 0 0, vi (nI j), vi (nI k), vi v] M K := by
  refine ab_Call_nr (caX9_put rfl (atX9_put ?_))
  refine c_re3T1 hj hn hs hk ?_
  have hk80 : k < if j = 4 then 0 else 80 := by rw [if_neg (by omega)]; omega
  refine caX7_exchange rfl (atX7_exchange ?_)
  refine ix_i j rfl hj (ix_i k rfl hk80 ?_)
  exact ix_i j rfl hj (ix_i k rfl hk80 hK)
end RowsC2
