/-! ===== the class's chase: the order in which hounds come ===== -/
def ord (H : Nat) (c o : Nat → Nat) : Prop := (∀ n, n < H → o n < H) ∧ (∀ i, i < H → ∃ n, n < H ∧ o n = i) ∧ ∀ n m, n < m → m < H → bef c (o n) (o m) = true
def insO (o : Nat → Nat) (n i : Nat) (m : Nat) : Nat := if m < n then o m else if m = n then i else o (m - 1)
theorem ord_ins {i n : Nat} {c o : Nat → Nat} (h : ord i c o) (hn : n ≤ i) (h1 : n = 0 ∨ c (o (n - 1)) ≤ c i) (h2 : ∀ m, n ≤ m → m < i → c i < c (o m)) : ord (i + 1) c (insO o n i) := by
  obtain ⟨a1, a2, a3⟩ := h
  refine ⟨fun m hm => ?_, fun x hx => ?_, fun a b hab hb => ?_⟩
  · unfold insO
    split
    · have := a1 m (by omega); omega
    · split
      · omega
      · have := a1 (m - 1) (by omega); omega
  · by_cases e : x = i
    · refine ⟨n, by omega, ?_⟩
      unfold insO
      rw [if_neg (by omega), if_pos rfl, e]
    · obtain ⟨m, m1, m2⟩ := a2 x (by omega)
      by_cases q : m < n
      · refine ⟨m, by omega, ?_⟩
        unfold insO
        rw [if_pos q, m2]
      · refine ⟨m + 1, by omega, ?_⟩
        unfold insO
        rw [if_neg (by omega), if_neg (by omega), Nat.add_sub_cancel, m2]
  · unfold insO
    by_cases q : a < n
    · rw [if_pos q]
      by_cases q2 : b < n
      · rw [if_pos q2]
        exact a3 a b hab (by omega)
      · rw [if_neg q2]
        by_cases q3 : b = n
        · rw [if_pos q3]
          have ha := a1 a (by omega)
          have : c (o a) ≤ c i := by
            rcases h1 with h1 | h1
            · omega
            · by_cases e : a = n - 1
              · rw [e]; exact h1
              · have := a3 a (n - 1) (by omega) (by omega)
                rw [bef_iff] at this
                omega
          rw [bef_iff]
          omega
        · rw [if_neg q3]
          exact a3 a (b - 1) (by omega) (by omega)
    · rw [if_neg q, if_neg (show ¬ b < n by omega), if_neg (show ¬ b = n by omega)]
      by_cases q3 : a = n
      · rw [if_pos q3]
        have := h2 (b - 1) (by omega) (by omega)
        rw [bef_iff]
        omega
      · rw [if_neg q3]
        exact a3 (a - 1) (b - 1) (by omega) (by omega)
theorem ord_bef {H : Nat} {c o : Nat → Nat} (h : ord H c o) {n : Nat} (hn : n < H) : ∀ j, j < H → ((∃ m, m < n ∧ o m = j) ↔ bef c j (o n) = true) := by
  intro j hj
  constructor
  · rintro ⟨m, m1, rfl⟩
    exact h.2.2 m n m1 hn
  · intro q
    obtain ⟨m, m1, rfl⟩ := h.2.1 j hj
    rcases Nat.lt_trichotomy m n with w | w | w
    · exact ⟨m, w, rfl⟩
    · subst w; rw [bef_iff] at q; omega
    · exact absurd q (bef_asym (h.2.2 n m w m1))
section SortC
variable {d : Nat} {M : ab_M} {K : ab_K}
theorem c_sortAt {H k : Nat} {c : Nat → Nat} (h0 : M.1 21 0 0 = nI H) (hH : H ≤ 4) (hk : k < 7) (hc : ∀ i, i < H → M.1 32 i k = nI (c i)) (hcl : ∀ i, c i < 1000) (hK : ∀ M' o, frS 38 38 M M' → ord H c o → (∀ n, n < H → M'.1 38 0 n = nI (o n)) → K none M') : ab_Call d 12 [vr 21 0, vi (nI k)] M K := by
  refine caX0_sortAt rfl (atX0_sortAt ?_)
  have key : ∀ i, i ≤ H → ∀ M' o, frS 38 38 M M' → ord i c o → (∀ n, n < i → M'.1 38 0 n = nI (o n)) → ab_At miX0_sortAt d 2 [some (vr 21 0), some (vi (nI k)), some (vi (nI i))] [] M' K := by
    refine up_ind fun i hi ih M' o hf ho hm => ?_
    refine atX0_sortAt ?_
    have h0' : M'.1 21 0 0 = nI H := by rw [hf.2 21 0 (by omega)]; exact h0
    refine And.intro (fun h => ?_) (fun h => ?_)
    · rw [h0'] at h
      have : i = H := by have := nle_use h; omega
      subst this
      exact hK M' o hf ho hm
    · rw [h0'] at h
      have hin := nlt_use h
      have inner : ∀ n, n ≤ i → ∀ M'', frS 38 38 M M'' → (∀ m, m < n → M''.1 38 0 m = nI (o m)) → (∀ m, n ≤ m → m < i → M''.1 38 0 (m + 1) = nI (o m)) → (∀ m, n ≤ m → m < i → c i < c (o m)) → ab_At miX0_sortAt d 12 [some (vr 21 0), some (vi (nI k)), some (vi (nI i)), some (vi (nI n))] [] M'' K := by
        intro n
        induction n with
        | zero =>
          intro _ M'' hf2 m1 m2 m3
          refine atX0_sortAt ?_
          refine And.intro (fun _ => ?_) (fun q => absurd (nlt_use q) (by omega))
          refine ix_i (0 : Nat) rfl (show 0 < 4 by omega) ?_
          have := ih hin (ab_sI M'' 38 0 0 (nI i)) (insO o 0 i) (frS_sI hf2 (by omega) (by omega)) (ord_ins ho (by omega) (Or.inl rfl) m3) (fun m hm => by
            by_cases e : m = 0
            · subst e; rw [sI_eq]; rfl
            · rw [sI_k (by omega)]
              have := m2 (m - 1) (by omega) (by omega)
              rw [show m - 1 + 1 = m by omega] at this
              rw [this]
              unfold insO
              rw [if_neg (by omega), if_neg e])
          rw [← nI_1] at this
          exact this
        | succ n ihn =>
          intro hn M'' hf2 m1 m2 m3
          refine atX0_sortAt ?_
          refine And.intro (fun q => absurd (nle_use q) (by omega)) (fun _ => ?_)
          have hon := ho.1 n (by omega)
          have en : M''.1 38 0 n = nI (o n) := m1 n (by omega)
          have es : nI (n + 1) - nI 1 = nI n := by rw [pk_sub (by omega), Nat.add_sub_cancel]
          have c1 : M''.1 32 (o n) k = nI (c (o n)) := by rw [hf2.2 32 _ (by omega)]; exact hc _ (by omega)
          have c2 : M''.1 32 i k = nI (c i) := by rw [hf2.2 32 _ (by omega)]; exact hc _ hin
          have l1 := hcl (o n)
          have l2 := hcl i
          refine ix_i n es (show n < 4 by omega) ?_
          refine ix_i (o n) en (show o n < 4 by omega) ?_
          refine ix_i k rfl (show k < 7 by omega) ?_
          refine ix_i i rfl (show i < 4 by omega) ?_
          refine ix_i k rfl (show k < 7 by omega) ?_
          refine And.intro (fun q => ?_) (fun q => ?_)
          · rw [c1, c2] at q
            have q := nle_use q
            refine ix_i (n + 1) rfl (show n + 1 < 4 by omega) ?_
            have := ih hin (ab_sI M'' 38 0 (n + 1) (nI i)) (insO o (n + 1) i) (frS_sI hf2 (by omega) (by omega)) (ord_ins ho (by omega) (Or.inr q) m3) (fun m hm => by
              by_cases e : m = n + 1
              · subst e; rw [sI_eq]; unfold insO; rw [if_neg (by omega), if_pos rfl]
              · rw [sI_k (by omega)]
                unfold insO
                by_cases w : m < n + 1
                · rw [if_pos w]; exact m1 m w
                · rw [if_neg w, if_neg e]
                  have := m2 (m - 1) (by omega) (by omega)
                  rwa [show m - 1 + 1 = m by omega] at this)
            rw [← nI_1] at this
            exact this
          · rw [c1, c2] at q
            have q := nlt_use q
            refine ix_i n es (show n < 4 by omega) ?_
            refine ix_i (n + 1) rfl (show n + 1 < 4 by omega) ?_
            have := ihn (by omega) (ab_sI M'' 38 0 (n + 1) (M''.1 38 0 n)) (frS_sI hf2 (by omega) (by omega)) (fun m hm => by rw [sI_k (by omega)]; exact m1 m (by omega)) (fun m hm1 hm2 => by
              by_cases e : m = n
              · subst e; rw [sI_eq]; exact en
              · rw [sI_k (by omega)]; exact m2 m (by omega) hm2) (fun m hm1 hm2 => by
              by_cases e : m = n
              · subst e; exact q
              · exact m3 m (by omega) hm2)
            rw [show nI n = nI (n + 1) + ab_cv (-1) by rw [← es, Int32.sub_eq_add_neg, show (-nI 1) = ab_cv (-1) by decide]] at this
            exact this
      exact inner i (Nat.le_refl _) M' hf hm (fun m a b => absurd b (by omega)) (fun m a b => absurd b (by omega))
  exact key 0 (Nat.zero_le _) M (fun _ => 0) frS_refl ⟨fun n hn => absurd hn (by omega), fun n hn => absurd hn (by omega), fun n m _ hm => absurd hm (by omega)⟩ (fun n hn => absurd hn (by omega))
end SortC
