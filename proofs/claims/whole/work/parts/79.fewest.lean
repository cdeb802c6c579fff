/-! ===== fewest: the class ===== -/
section FewestC
variable {d : Nat} {M : ab_M} {K : ab_K} {D : Nat → Nat}
theorem c_fill41 {r n : Nat} {v : Int32} (hv : v = nI n) (hr : r < 6) (hn : n ≤ 3) (hK : K none (ab_sC (ab_sI M 4 0 r (nI n)) 41 0 0 3 r 0 n)) : ab_Call (d + 1) 88 [vr 1 0, vi (nI r), vr 41 0, vi v] M K := by
  subst hv
  refine caX7_fill rfl (atX7_fill ?_)
  refine ix_i r rfl hr ?_
  refine ix_i r rfl hr ?_
  refine cp_i 0 0 n rfl rfl rfl (show 0 + n ≤ 3 by omega) (show 0 + n ≤ 40 by omega) ?_
  exact hK
theorem c_fewestEnds (hl : ldC M 0 D) (hc : crC M 0 D) (hw : wf D) (h0 : ∀ M', frA M M' → (∀ n, n ≤ 3 → D 5 + n ≤ 8 → nn D n D 0) → K (some (vi (-9))) M') (h1 : ∀ M' L, frA M M' → L.length ≤ 3 → D 5 + L.length ≤ 8 → fd D L D 0 → (∀ q, q < L.length → nn D q D 0) → (∀ k (hk : k < L.length), M'.1 41 0 k = nI L[k]) → K (some (vi (nI L.length))) M') : ab_Call (d + 8) 69 [vr 39 0] M K := by
  refine ab_Call_nr (caX5_fewestEnds rfl (atX5_fewestEnds ?_))
  have hb := bnd_of hw
  have b5 := hb.2.2.1
  refine c_prepare hl hc hw (fun M1 f1 t1 t2 t3 t4 t5 => ?_)
  have e3 : M1.1 14 0 2 = nI (D 5) := (frA_cr f1 (by omega) hc).2.2.1
  have key : ∀ n, n ≤ min 3 (8 - D 5) + 1 → ∀ w, w = nI (min 3 (8 - D 5)) → (∀ q, q < n → nn D q D 0) → ∀ M3, chz D D M M3 → ab_At miX5_fewestEnds (d + 8) 21 [some (vr 39 0), some (vi w), some (vi (nI n))] [] M3 (fun r M => K (r.map ab_nr) M) := by
    refine up_ind fun n hn ih w hw' hno M3 hz => ?_
    refine atX5_fewestEnds ?_
    have hmor := mor_0 hw
    refine And.intro (fun q => ?_) (fun q => ?_)
    · rw [hw'] at q
      have q := nlt_use q
      exact h0 M3 hz.1 (fun m q1 q2 => hno m (by omega))
    · rw [hw'] at q
      have q := nle_use q
      have ch : ∀ K : ab_K, (∀ M', chz D D M M' → (∀ k, k < 0 → M'.1 41 0 k = M3.1 41 0 k) → nn D n D 0 → K (some (.inl 0)) M') → (∀ M' L, chz D D M M' → (∀ k, k < 0 → M'.1 41 0 k = M3.1 41 0 k) → L.length = n → fd D L D 0 → (∀ k (hk : k < L.length), M'.1 41 0 (0 + k) = nI L[k]) → K (some (.inl 1)) M') → ab_Call (d + 7) 70 [vr 39 0, vi (nI 0), vi (nI n), vi (nI 0)] M3 K := by
        intro K q0 q1
        have := c_choose (d := d + (3 - n)) hl hc hw n D 0 0 M3 K (by omega) (by omega) hmor (by omega) hz (pf_of hno) q0 q1
        rw [show d + (3 - n) + n + 4 = d + 7 by omega, Nat.zero_add] at this
        exact this
      refine ch _ (fun M4 g1 g2 g3 => ?_) (fun M4 L g1 g2 g3 g4 g5 => ?_)
      · have := ih (by omega) w hw' (fun q hq => by
          by_cases e : q = n
          · subst e; exact g3
          · exact hno q (by omega)) M4 g1
        rw [← nI_1 n] at this
        exact this
      · have := h1 M4 L g1.1 (by omega) (by omega) g4 (fun q hq => hno q (by omega)) (fun k hk => by have := g5 k hk; rw [Nat.zero_add] at this; exact this)
        rw [g3] at this
        exact this
  exact key 0 (Nat.zero_le _) _ (by rw [e3, pk_sub (by omega), mn_eq (by omega) (by omega)]) (fun q hq => absurd hq (by omega)) M1 ⟨f1, t1, t3, t4, t5⟩
end FewestC
