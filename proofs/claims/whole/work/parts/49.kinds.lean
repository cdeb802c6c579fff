/-! ===== kinds ===== -/
theorem cal1 {D : Nat → Nat} {kd : Nat → Nat} {k : Nat} {c : Nat → Nat} : cal D 1 kd k c 0 = false := by
  unfold cal
  have : exb (fun j => bef c j 0 && decide (c j + lo D (kd j) k ≤ c 0)) 1 = false := by
    cases q : exb (fun j => bef c j 0 && decide (c j + lo D (kd j) k ≤ c 0)) 1
    · rfl
    · obtain ⟨j, j1, j2⟩ := exb_iff.mp q
      rw [Bool.and_eq_true, bef_iff] at j2
      have : j = 0 := by omega
      subst this
      omega
  rw [this, Bool.and_false]
/-- a hound of a kind, alone -/
def one (D : Nat → Nat) (kd k : Nat) : Nat := cmv D 1 (fun _ => kd) k 0
theorem one_s {D : Nat → Nat} {kd k : Nat} : one D kd (k + 1) = one D kd k + (lo D kd k + pce kd (sg D k)) := by
  show lvv D 1 (fun _ => kd) k (cmv D 1 (fun _ => kd) k) 0 + pce kd (sg D k) = _
  unfold lvv
  rw [cal1]
  show one D kd k + lo D kd k + pce kd (sg D k) = _
  omega
def agk (D : Nat → Nat) (f : Nat → Int32) (kd k : Nat) : Bool := decide (f k = -9) || decide (f k = nI (one D kd k))
def agr (D : Nat → Nat) (f : Nat → Int32) (kd n : Nat) : Bool := !exb (fun k => !agk D f kd k) n
theorem agr_s {D : Nat → Nat} {f : Nat → Int32} {kd n : Nat} : agr D f kd (n + 1) = (agr D f kd n && agk D f kd n) := by
  unfold agr
  rw [exb, Bool.not_or, Bool.not_not]
theorem agr_cong {D : Nat → Nat} {f g : Nat → Int32} {kd : Nat} : ∀ {n : Nat}, (∀ k, k < n → f k = g k) → agr D f kd n = agr D g kd n
  | 0, _ => rfl
  | n + 1, h => by
    rw [agr_s, agr_s, agr_cong (fun k hk => h k (by omega))]
    unfold agk
    rw [h n (by omega)]
section Kinds
variable {d : Nat} {M : ab_M} {K : ab_K} {D : Nat → Nat}
def snk (f : Nat → Int32) (n : Nat) : Prop := ∀ k, k < n → ¬ (f k < nI 0 ∧ ¬ f k = -9)
theorem c_areSeen {r n : Nat} {v : Int32} (hv : v = nI n) (hr : r < 6) (hn : n ≤ 40) (h1 : snk (M.1 3 r) n → K (some (.inl 1)) M) (h0 : ¬ snk (M.1 3 r) n → K (some (.inl 0)) M) : ab_Call d 159 [vr 3 r, vi v] M K := by
  subst hv
  refine caX9_areSeen rfl (atX9_areSeen ?_)
  have key : ∀ j, j ≤ n → snk (M.1 3 r) j → ab_At miX9_areSeen d 2 [some (vr 3 r), some (vi (nI n)), some (vi (nI j))] [] M K := by
    refine up_ind fun j hj ih hs => ?_
    refine atX9_areSeen ?_
    refine And.intro (fun h => ?_) (fun h => ?_)
    · have : j = n := by have := nle_use h; omega
      subst this
      exact h1 hs
    · have hjn := nlt_use h
      have go : ¬ (M.1 3 r j < nI 0 ∧ ¬ M.1 3 r j = -9) → ab_At miX9_areSeen d 2 [some (vr 3 r), some (vi (nI n)), some (vi (nI j + nI 1))] [] M K := by
        intro w
        have := ih hjn (fun k hk => by by_cases e : k = j; rw [e]; exact w; exact hs k (by omega))
        rw [← nI_1 j] at this
        exact this
      refine ix_i j rfl (show j < 40 by omega) ?_
      refine And.intro (fun q => go (fun w => i_lt_le w.1 q)) (fun q => ?_)
      refine ix_i j rfl (show j < 40 by omega) ?_
      refine And.intro (fun q2 => go (fun w => w.2 q2)) (fun q2 => ?_)
      exact h0 (fun w => w j hjn ⟨q, q2⟩)
  exact key 0 (Nat.zero_le _) (fun k hk => absurd hk (by omega))
theorem c_agrees {r kd : Nat} (hw : wf D) (hr : r < 6) (hO : chO D 1 (fun _ => kd) M) (hK : ∀ b, b = b1 (agr D (M.1 3 r) kd (D 4)) → K (some (vi (nI b))) M) : ab_Call d 19 [vr 21 0, vr 3 r] M K := by
  refine ab_Call_nr (caX0_agrees rfl (atX0_agrees ?_))
  have hb4 := (bnd_of hw).2.1
  have key : ∀ j, j ≤ D 4 → agr D (M.1 3 r) kd j = true → ab_At miX0_agrees d 2 [some (vr 21 0), some (vr 3 r), some (vi (nI j))] [] M (fun r M => K (r.map ab_nr) M) := by
    refine up_ind fun j hj ih hs => ?_
    refine atX0_agrees ?_
    refine And.intro (fun h => ?_) (fun h => ?_)
    · rw [hO.1.2.1] at h
      have : j = D 4 := by have := nle_use h; omega
      subst this
      exact hK 1 (by rw [hs]; rfl)
    · rw [hO.1.2.1] at h
      have hjn := nlt_use h
      have e32 : M.1 32 0 j = nI (one D kd j) := hO.2.2.1 0 (by omega) j hjn (by omega)
      have go : agk D (M.1 3 r) kd j = true → ab_At miX0_agrees d 2 [some (vr 21 0), some (vr 3 r), some (vi (nI j + nI 1))] [] M (fun r M => K (r.map ab_nr) M) := by
        intro w
        have := ih hjn (by rw [agr_s, hs, w]; rfl)
        rw [← nI_1 j] at this
        exact this
      refine ix_i j rfl (show j < 40 by omega) ?_
      refine And.intro (fun q => ?_) (fun q => ?_)
      · exact go (by unfold agk; rw [show decide (M.1 3 r j = -9) = true from decide_eq_true q]; rfl)
      · refine ix_i j rfl (show j < 40 by omega) ?_
        refine ix_i j rfl (show j < 7 by omega) ?_
        refine And.intro (fun q2 => ?_) (fun q2 => ?_)
        · exact go (by unfold agk; rw [show decide (M.1 3 r j = nI (one D kd j)) = true by rw [← e32]; simpa using q2, Bool.or_true])
        · refine hK 0 ?_
          have : agr D (M.1 3 r) kd (D 4) = false := by
            unfold agr
            rw [exb_iff.mpr ⟨j, hjn, by
              unfold agk
              rw [show decide (M.1 3 r j = -9) = false from decide_eq_false q, show decide (M.1 3 r j = nI (one D kd j)) = false by rw [← e32]; simpa using q2]
              rfl⟩]
            rfl
          rw [this]
          rfl
  exact key 0 (Nat.zero_le _) rfl
/-- the reference's way of it -/
theorem m_agr {r kd set : Nat} {f : Nat → Int32} (hn : nwM M 54 0 D) (hw : wf D) (hr : r < 6) (h4 : 0 < D 4) (hkd : kd ≤ 5) (hf : ∀ k, k < D 4 → M.1 51 0 (40 * r + k) = f k) (hK : ab_At miX10_kinds (d + 3) 105 [some (vr 49 0), some (vi (nI r)), some (vi (nI set ||| (if agr D f kd (D 4) then ab_shl (nI 1) (nI kd) else nI 0))), some (vi (nI kd + nI 1))] [] M K) : ab_At miX10_kinds (d + 3) 125 [some (vr 49 0), some (vi (nI r)), some (vi (nI set)), some (vi (nI kd)), some (vi (nI (D 3))), some (vi (nI 1)), some (vi (nI 0))] [] M K := by
  have hb := bnd_of hw
  have hb4 := hb.2.1
  have key : ∀ j, j ≤ D 4 → ∀ v : Int32, (j < D 4 → v = nI (one D kd j)) → ab_At miX10_kinds (d + 3) 125 [some (vr 49 0), some (vi (nI r)), some (vi (nI set)), some (vi (nI kd)), some (vi v), some (vi (nI (b1 (agr D f kd j)))), some (vi (nI j))] [] M K := by
    refine up_ind fun j hj ih v hv => ?_
    refine atX10_kinds ?_
    refine And.intro (fun h => ?_) (fun h => ?_)
    · rw [nw hn (by omega)] at h
      have : j = D 4 := by have := nle_use h; omega
      subst this
      refine And.intro (fun q => ?_) (fun q => ?_)
      · rw [b1_0 q] at hK
        exact hK
      · rw [b1_1 q] at hK
        exact hK
    · rw [nw hn (by omega)] at h
      have hjn := nlt_use h
      have hv := hv hjn
      have ec := hf j hjn
      have tail : ∀ b, b = agr D f kd (j + 1) → (j + 1 < D 4 → ab_At miX10_kinds (d + 3) 125 [some (vr 49 0), some (vi (nI r)), some (vi (nI set)), some (vi (nI kd)), some (vi (v + (nI (lo D kd j) + nI (pce kd (sg D j))))), some (vi (nI (b1 b))), some (vi (nI j + nI 1))] [] M K) ∧ (¬ j + 1 < D 4 → ab_At miX10_kinds (d + 3) 125 [some (vr 49 0), some (vi (nI r)), some (vi (nI set)), some (vi (nI kd)), some (vi (v + nI 0)), some (vi (nI (b1 b))), some (vi (nI j + nI 1))] [] M K) := by
        intro b hb2
        subst hb2
        refine ⟨fun w => ?_, fun w => ?_⟩
        · have := ih hjn (v + (nI (lo D kd j) + nI (pce kd (sg D j)))) (fun _ => by rw [hv, nI_add, nI_add, one_s])
          rw [← nI_1 j] at this
          exact this
        · have := ih hjn (v + nI 0) (fun q => absurd q w)
          rw [← nI_1 j] at this
          exact this
      refine ix_i (40 * r + j) (by simp only [pk_mul, nI_add]) (show _ < 240 by omega) ?_
      refine And.intro (fun q => ?_) (fun q => ?_)
      · have q := b1_0 q
        have hbb : false = agr D f kd (j + 1) := by rw [agr_s, q]; rfl
        refine And.intro (fun w => ?_) (fun w => ?_)
        · rw [nw hn (by omega), nI_sub1 (by omega) (by omega)] at w
          exact (tail _ hbb).2 (by omega)
        · rw [nw hn (by omega), nI_sub1_lt (by omega) (by omega)] at w
          refine m_loses hn hb hjn hkd ?_
          refine m_stretch hn hw w ?_
          refine m_pace hkd (sg_le hw.1 j) ?_
          exact (tail _ hbb).1 w
      · have q := b1_1 q
        refine And.intro (fun q2 => ?_) (fun q2 => ?_)
        · have q2 : f j = -9 := ec.symm.trans q2
          have hbb : true = agr D f kd (j + 1) := by rw [agr_s, q]; unfold agk; rw [show decide (f j = -9) = true from decide_eq_true q2]; rfl
          refine And.intro (fun w => ?_) (fun w => ?_)
          · rw [nw hn (by omega), nI_sub1 (by omega) (by omega)] at w
            exact (tail _ hbb).2 (by omega)
          · rw [nw hn (by omega), nI_sub1_lt (by omega) (by omega)] at w
            refine m_loses hn hb hjn hkd ?_
            refine m_stretch hn hw w ?_
            refine m_pace hkd (sg_le hw.1 j) ?_
            exact (tail _ hbb).1 w
        · have q2 : ¬ f j = -9 := fun w => q2 (ec.trans w)
          refine And.intro (fun q3 => ?_) (fun q3 => ?_)
          · have q3 : ¬ f j = nI (one D kd j) := fun w => q3 (by rw [ec, w, hv])
            have hbb : false = agr D f kd (j + 1) := by rw [agr_s, q]; unfold agk; rw [show decide (f j = -9) = false from decide_eq_false q2, show decide (f j = nI (one D kd j)) = false from decide_eq_false q3]; rfl
            refine And.intro (fun w => ?_) (fun w => ?_)
            · rw [nw hn (by omega), nI_sub1 (by omega) (by omega)] at w
              exact (tail _ hbb).2 (by omega)
            · rw [nw hn (by omega), nI_sub1_lt (by omega) (by omega)] at w
              refine m_loses hn hb hjn hkd ?_
              refine m_stretch hn hw w ?_
              refine m_pace hkd (sg_le hw.1 j) ?_
              exact (tail _ hbb).1 w
          · have q3 : f j = nI (one D kd j) := by rw [← hv, ← ec]; exact q3
            have hbb : true = agr D f kd (j + 1) := by rw [agr_s, q]; unfold agk; rw [show decide (f j = nI (one D kd j)) = true from decide_eq_true q3, Bool.or_true]; rfl
            refine And.intro (fun w => ?_) (fun w => ?_)
            · rw [nw hn (by omega), nI_sub1 (by omega) (by omega)] at w
              exact (tail _ hbb).2 (by omega)
            · rw [nw hn (by omega), nI_sub1_lt (by omega) (by omega)] at w
              refine m_loses hn hb hjn hkd ?_
              refine m_stretch hn hw w ?_
              refine m_pace hkd (sg_le hw.1 j) ?_
              exact (tail _ hbb).1 w
  exact key 0 (Nat.zero_le _) (nI (D 3)) (fun _ => rfl)
end Kinds
