/-! ===== rows and texts: the law's steps, further ===== -/
/-- a general row of both: what has become of it -/
theorem rw_gen {M M' : ab_M} (h : rw_ok M) {j : Nat} (h4 : ∀ r, r ≠ j → M'.1 4 0 r = M.1 4 0 r) (h50 : ∀ r, r ≠ j → M'.1 50 0 r = M.1 50 0 r) (h3 : ∀ r, r ≠ j → M'.1 3 r = M.1 3 r) (h51 : ∀ r k, r ≠ j → k < 40 → M'.1 51 0 (40 * r + k) = M.1 51 0 (40 * r + k)) (hj : rowOk (M'.1 4 0 j) (M'.1 50 0 j) (M'.1 3 j) (fun k => M'.1 51 0 (40 * j + k)) 40) : rw_ok M' := by
  intro r hr
  by_cases e : r = j
  · subst e; exact hj
  · obtain ⟨a, b⟩ := h r hr
    rw [h4 r e, h50 r e, h3 r e]
    refine ⟨a, b.imp (fun q => q) (fun q => ?_)⟩
    obtain ⟨n, q1, q2, q3⟩ := q
    exact ⟨n, q1, q2, fun k hk => (q3 k hk).trans (h51 r k e (by omega)).symm⟩
theorem tx_gen {M M' : ab_M} (h : tx_ok M) {j : Nat} (h4 : ∀ r, r ≠ j → M'.1 8 0 r = M.1 8 0 r) (h50 : ∀ r, r ≠ j → M'.1 52 0 r = M.1 52 0 r) (h3 : ∀ r, r ≠ j → M'.1 7 r = M.1 7 r) (h51 : ∀ r k, r ≠ j → k < 80 → M'.1 53 0 (80 * r + k) = M.1 53 0 (80 * r + k)) (hj : rowOk (M'.1 8 0 j) (M'.1 52 0 j) (M'.1 7 j) (fun k => M'.1 53 0 (80 * j + k)) 80) : tx_ok M' := by
  intro r hr
  by_cases e : r = j
  · subst e; exact hj
  · obtain ⟨a, b⟩ := h r hr
    rw [h4 r e, h50 r e, h3 r e]
    refine ⟨a, b.imp (fun q => q) (fun q => ?_)⟩
    obtain ⟨n, q1, q2, q3⟩ := q
    exact ⟨n, q1, q2, fun k hk => (q3 k hk).trans (h51 r k e (by omega)).symm⟩
section Ops2
variable {d : Nat} {M : ab_M}
theorem op_lay {x y v : Int32} (hR : Rel M) : OpI (d + 4) 104 168 [vi x, vi y, vi v] M := by
  rcases ix_cases x (n := 6) (by omega) with ⟨j, hj, rfl⟩ | hno
  · rcases rw_cases hR hj with ⟨a, b⟩ | ⟨n, hn, a, b, hc⟩
    · exact C_laym hj a (M_laym hj b ⟨⟨_, rfl, rfl⟩, Rel_rf 1 hR⟩)
    · rcases ix_cases y (n := n) (by omega) with ⟨k, hk, rfl⟩ | hy
      · refine C_lay hj hn a hk (M_lay hj hn b hk ⟨⟨_, rfl, rfl⟩, ?_⟩)
        have e : M.1 3 j k = M.1 51 0 (40 * j + k) := hc k hk
        refine Rel_of hR (rw_gen (j := j) hR.1 (fun _ _ => rfl) (fun _ _ => rfl) (fun r hr => sI_i (M := M) hr) (fun r i hr hi => sI_k (M := ab_sI (ab_sI M 3 j k v) 0 0 14 (M.1 3 j k)) (a := 51) (b := 0) (by omega)) ⟨hR.1 j hj |>.1, Or.inr ⟨n, hn, b, fun i hi => ?_⟩⟩) (tx_fr hR.2.1 rfl rfl rfl rfl) ⟨e, hR.2.2.1.2⟩ rfl (frD_lit rfl rfl rfl rfl rfl rfl rfl rfl rfl rfl rfl rfl)
        show (ab_sI M 3 j k v).1 3 j i = (ab_sI (ab_sI (ab_sI M 3 j k v) 0 0 14 (M.1 3 j k)) 51 0 (40 * j + k) v).1 51 0 (40 * j + i)
        by_cases q : i = k
        · subst q
          rw [sI_eq, sI_eq]
        · rw [sI_k q, sI_k (by omega)]
          exact hc i hi
      · exact C_layb hj hn a hy (M_layb hj hn b hy ⟨⟨_, rfl, rfl⟩, Rel_rf 2 hR⟩)
  · exact C_lay0 hno (M_lay0 hno ⟨⟨_, rfl, rfl⟩, hR⟩)
theorem op_at {x y : Int32} (hR : Rel M) : OpI (d + 4) 105 169 [vi x, vi y] M := by
  rcases ix_cases x (n := 6) (by omega) with ⟨j, hj, rfl⟩ | hno
  · rcases rw_cases hR hj with ⟨a, b⟩ | ⟨n, hn, a, b, hc⟩
    · exact C_atm hj a (M_atm hj b ⟨⟨_, rfl, rfl⟩, Rel_rf 1 hR⟩)
    · rcases ix_cases y (n := n) (by omega) with ⟨k, hk, rfl⟩ | hy
      · refine C_at hj hn a hk (M_at hj hn b hk ⟨⟨_, rfl, rfl⟩, ?_⟩)
        have e : M.1 3 j k = M.1 51 0 (40 * j + k) := hc k hk
        have := Rel_tell (M.1 3 j k) hR
        rw [show (ab_sI M 0 0 14 (M.1 3 j k)).1 51 0 (40 * j + k) = M.1 3 j k from e.symm]
        exact this
      · exact C_atb hj hn a hy (M_atb hj hn b hy ⟨⟨_, rfl, rfl⟩, Rel_rf 2 hR⟩)
  · exact C_at0 hno (M_at0 hno ⟨⟨_, rfl, rfl⟩, hR⟩)
theorem op_tear {x : Int32} (hR : Rel M) : OpI (d + 4) 106 170 [vi x] M := by
  rcases ix_cases x (n := 6) (by omega) with ⟨j, hj, rfl⟩ | hno
  · rcases rw_cases hR hj with ⟨a, b⟩ | ⟨n, hn, a, b, hc⟩
    · exact C_tearm hj a (M_tearm hj b ⟨⟨_, rfl, rfl⟩, Rel_rf 1 hR⟩)
    · refine C_tear hj hn a (M_tear hj hn b ⟨⟨_, rfl, rfl⟩, ?_⟩)
      refine Rel_of hR (rw_gen (j := j) hR.1 (fun r hr => sI_k (M := M) (a := 4) (b := 0) hr) (fun r hr => sI_k (M := ab_sI M 4 0 j (-1)) (a := 50) (b := 0) hr) (fun _ _ => rfl) (fun _ _ _ _ => rfl) ⟨?_, Or.inl ?_⟩) (tx_fr hR.2.1 rfl rfl rfl rfl) hR.2.2.1 rfl (frD_lit rfl rfl rfl rfl rfl rfl rfl rfl rfl rfl rfl rfl)
      · exact (sI_eq (M := M)).trans (sI_eq (M := ab_sI M 4 0 j (-1))).symm
      · exact sI_eq (M := ab_sI M 4 0 j (-1))
  · exact C_tear0 hno (M_tear0 hno ⟨⟨_, rfl, rfl⟩, hR⟩)
theorem sp_cases (i : Int32) {c n : Nat} (hn : n ≤ 40) : (∃ a, a + c ≤ n ∧ i = nI a) ∨ ∀ a, a + c ≤ n → i ≠ nI a := by
  rcases ix_cases i (n := 41) (by omega) with ⟨a, ha, rfl⟩ | h
  · by_cases q : a + c ≤ n
    · exact Or.inl ⟨a, q, rfl⟩
    · exact Or.inr (fun b hb e => q (by have := neq_use e; omega))
  · exact Or.inr (fun a ha => h a (by omega))
theorem op_copy {x i y j z : Int32} (hR : Rel M) : OpI (d + 4) 107 171 [vi x, vi i, vi y, vi j, vi z] M := by
  rcases ix_cases x (n := 6) (by omega) with ⟨r, hr, rfl⟩ | hno
  · rcases ix_cases y (n := 6) (by omega) with ⟨t, ht, rfl⟩ | hno
    · rcases i_cases z with q | ⟨c, hc, rfl⟩
      · exact C_copyn hr ht q (M_copyn hr ht q ⟨⟨_, rfl, rfl⟩, Rel_rf 5 hR⟩)
      · rcases rw_cases hR hr with ⟨a, b⟩ | ⟨n, hn, a, b, hcc⟩
        · exact C_copym hr ht hc (Or.inl a) (M_copym hr ht hc (Or.inl b) ⟨⟨_, rfl, rfl⟩, Rel_rf 1 hR⟩)
        · rcases rw_cases hR ht with ⟨a2, b2⟩ | ⟨m, hm, a2, b2, hcc2⟩
          · exact C_copym hr ht hc (Or.inr ⟨⟨n, hn, a⟩, a2⟩) (M_copym hr ht hc (Or.inr ⟨⟨n, hn, b⟩, b2⟩) ⟨⟨_, rfl, rfl⟩, Rel_rf 1 hR⟩)
          · rcases sp_cases i (c := c) hn with ⟨p, hp, rfl⟩ | hi
            · rcases sp_cases j (c := c) hm with ⟨s, hs, rfl⟩ | hj
              · refine C_copy hr ht hn hm a a2 hp hs (M_copy hr ht hn hm b b2 hp hs ⟨⟨_, rfl, rfl⟩, ?_⟩)
                refine Rel_of hR (rw_gen (j := t) hR.1 (fun _ _ => rfl) (fun _ _ => rfl) (fun u hu => (ab_sC_other (M := M) (g := 3) (i := r) (a := p) (h := 3) (j := t) (b := s) (n := c) 3 u (fun q => hu q.2)).1) (fun u k hu hk => if_neg (by omega)) ⟨hR.1 t ht |>.1, Or.inr ⟨m, hm, b2, fun k hk => ?_⟩⟩) (tx_fr hR.2.1 rfl rfl rfl rfl) hR.2.2.1 rfl (frD_lit rfl rfl rfl rfl rfl rfl rfl rfl rfl rfl rfl rfl)
                show (if 3 = 3 ∧ t = t ∧ s ≤ k ∧ k < s + c then M.1 3 r (p + (k - s)) else M.1 3 t k) = cpx (M.1 51 0) (40 * r + p) (40 * t + s) 0 c (40 * t + k)
                unfold cpx
                by_cases q : s ≤ k ∧ k < s + c
                · rw [if_pos ⟨rfl, rfl, q⟩, if_pos ⟨by omega, by omega⟩, hcc _ (by omega), show 40 * r + p + (40 * t + k - (40 * t + s)) = 40 * r + (p + (k - s)) by omega]
                · rw [if_neg (fun w => q w.2.2), if_neg (by omega)]
                  exact hcc2 k hk
              · exact C_copyb hr ht hc hn hm a a2 (Or.inr ⟨⟨p, hp, rfl⟩, hj⟩) (M_copyb hr ht hc hn hm b b2 (Or.inr hj) ⟨⟨_, rfl, rfl⟩, Rel_rf 2 hR⟩)
            · exact C_copyb hr ht hc hn hm a a2 (Or.inl hi) (M_copyb hr ht hc hn hm b b2 (Or.inl hi) ⟨⟨_, rfl, rfl⟩, Rel_rf 2 hR⟩)
    · exact C_copy0 (Or.inr hno) (M_copy0 (Or.inr hno) ⟨⟨_, rfl, rfl⟩, hR⟩)
  · exact C_copy0 (Or.inl hno) (M_copy0 (Or.inl hno) ⟨⟨_, rfl, rfl⟩, hR⟩)
theorem op_mean {x : Int32} (hR : Rel M) : OpI (d + 4) 108 172 [vi x] M := by
  rcases ix_cases x (n := 6) (by omega) with ⟨j, hj, rfl⟩ | hno
  · rcases rw_cases hR hj with ⟨a, b⟩ | ⟨n, hn, a, b, hc⟩
    · exact C_meanm hj a (M_meanm hj b ⟨⟨_, rfl, rfl⟩, Rel_rf 1 hR⟩)
    · rcases Nat.eq_zero_or_pos n with q | q
      · subst q
        exact C_meanz hj a (M_meanz hj b ⟨⟨_, rfl, rfl⟩, Rel_rf 4 hR⟩)
      · refine C_mean hj hn q a (M_mean hj hn q b ⟨⟨_, rfl, rfl⟩, ?_⟩)
        have e : smL (M.1 3 j) n = smL (fun k => M.1 51 0 (40 * j + k)) n := smL_cong hc
        have := Rel_tell (smL (M.1 3 j) n / (nI n).toInt64).toInt32 hR
        show Rel (ab_sI _ 49 0 7 (smL (fun k => M.1 51 0 (40 * j + k)) n / (nI n).toInt64).toInt32)
        rw [← e]
        exact this
  · exact C_mean0 hno (M_mean0 hno ⟨⟨_, rfl, rfl⟩, hR⟩)
theorem op_text {x y : Int32} (hR : Rel M) : OpI (d + 3) 109 173 [vi x, vi y] M := by
  rcases ix_cases x (n := 4) (by omega) with ⟨j, hj, rfl⟩ | hno
  · rcases y_cases y (mx := 80) (by omega) with q | q | ⟨n, hn, rfl⟩
    · exact C_text_bad (Or.inr q) (M_text_bad (Or.inr q) ⟨⟨_, rfl, rfl⟩, hR⟩)
    · exact C_text_neg hj q (M_text_neg hj q ⟨⟨_, rfl, rfl⟩, Rel_rf 5 hR⟩)
    · refine C_text hj hn (M_text hj hn ⟨⟨_, rfl, rfl⟩, ?_⟩)
      refine Rel_of hR (rw_fr hR.1 rfl rfl rfl rfl) (tx_gen (j := j) hR.2.1 (fun r hr => sI_k (M := M) (a := 8) (b := 0) hr) (fun r hr => sI_k (M := sR (ab_sI M 8 0 j (nI n)) 7 j (flr (M.1 7 j) n (nI 32))) (a := 52) (b := 0) hr) (fun r hr => sR_ne (M := ab_sI M 8 0 j (nI n)) (fun q => hr q.2)) (fun r k hr hk => if_neg (by omega)) ⟨?_, Or.inr ⟨n, hn, ?_, fun k hk => ?_⟩⟩) hR.2.2.1 rfl (frD_lit rfl rfl rfl rfl rfl rfl rfl rfl rfl rfl rfl rfl)
      · exact (sI_eq (M := M)).trans (sI_eq (M := sR (ab_sI M 8 0 j (nI n)) 7 j (flr (M.1 7 j) n (nI 32)))).symm
      · exact sI_eq (M := sR (ab_sI M 8 0 j (nI n)) 7 j (flr (M.1 7 j) n (nI 32)))
      · have e : (sR (ab_sI M 8 0 j (nI n)) 7 j (flr (M.1 7 j) n (nI 32))).1 7 j k = flr (M.1 7 j) n (nI 32) k := by rw [sR_eq]
        refine e.trans ?_
        show (if k < n then nI 32 else _) = (if 80 * j ≤ 80 * j + k ∧ 80 * j + k < 80 * j + 80 then nI 32 else _)
        rw [if_pos hk, if_pos ⟨by omega, by omega⟩]
  · exact C_text_bad (Or.inl hno) (M_text_bad (Or.inl hno) ⟨⟨_, rfl, rfl⟩, hR⟩)
theorem op_put {x y v : Int32} (hR : Rel M) : OpI (d + 4) 110 174 [vi x, vi y, vi v] M := by
  rcases ix_cases x (n := 4) (by omega) with ⟨j, hj, rfl⟩ | hno
  · rcases tx_cases hR hj with ⟨a, b⟩ | ⟨n, hn, a, b, hc⟩
    · exact C_putm hj a (M_putm hj b ⟨⟨_, rfl, rfl⟩, Rel_rf 1 hR⟩)
    · rcases ix_cases y (n := n) (by omega) with ⟨k, hk, rfl⟩ | hy
      · refine C_put hj hn a hk (M_put hj hn b hk ⟨⟨_, rfl, ?_⟩, ?_⟩)
        · show some (vi (M.1 53 0 (80 * j + k) + nI 1000)) = _
          rw [hc k hk, Int32.add_comm]
        · refine Rel_of hR (rw_fr hR.1 rfl rfl rfl rfl) (tx_gen (j := j) hR.2.1 (fun _ _ => rfl) (fun _ _ => rfl) (fun r hr => sI_i (M := M) hr) (fun r i hr hi => sI_k (M := ab_sI M 7 j k v.toInt8.toInt32) (a := 53) (b := 0) (by omega)) ⟨hR.2.1 j hj |>.1, Or.inr ⟨n, hn, b, fun i hi => ?_⟩⟩) hR.2.2.1 rfl (frD_lit rfl rfl rfl rfl rfl rfl rfl rfl rfl rfl rfl rfl)
          show (ab_sI M 7 j k v.toInt8.toInt32).1 7 j i = (ab_sI (ab_sI M 7 j k v.toInt8.toInt32) 53 0 (80 * j + k) v.toInt8.toInt32).1 53 0 (80 * j + i)
          by_cases q : i = k
          · subst q
            rw [sI_eq, sI_eq]
          · rw [sI_k q, sI_k (by omega)]
            exact hc i hi
      · exact C_putb hj hn a hy (M_putb hj hn b hy ⟨⟨_, rfl, rfl⟩, Rel_rf 2 hR⟩)
  · exact C_put0 hno (M_put0 hno ⟨⟨_, rfl, rfl⟩, hR⟩)
end Ops2
