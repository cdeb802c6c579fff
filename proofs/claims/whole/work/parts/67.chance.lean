/-! ===== chance: words ===== -/
def fac : Nat → Nat
  | 0 => 1
  | n + 1 => fac n * (n + 1)
theorem fac_pos : ∀ n, 0 < fac n
  | 0 => by decide
  | n + 1 => Nat.mul_pos (fac_pos n) (by omega)
theorem fac_mono {a b : Nat} (h : a ≤ b) : fac a ≤ fac b := by
  obtain ⟨c, rfl⟩ := Nat.exists_eq_add_of_le h
  induction c with
  | zero => exact Nat.le_refl _
  | succ c ih => exact Nat.le_trans (ih (by omega)) (Nat.le_mul_of_pos_right _ (by omega))
theorem fac_mul : ∀ a b, fac a * fac b ≤ fac (a + b)
  | a, 0 => by rw [fac, Nat.mul_one]; exact Nat.le_refl _
  | a, b + 1 => by
    show fac a * (fac b * (b + 1)) ≤ fac (a + b) * (a + b + 1)
    rw [← Nat.mul_assoc]
    exact Nat.mul_le_mul (fac_mul a b) (by omega)
/-- how many ends of place k are in a set; and how many aren't -/
def cA (D : Nat → Nat) (k : Nat) (s : Nat → Bool) : Nat := sm (fun e => b1 (eap D k e && s e)) (D 5)
def cB (D : Nat → Nat) (k : Nat) (s : Nat → Bool) : Nat := sm (fun e => b1 (eap D k e && !s e)) (D 5)
def cN (D : Nat → Nat) (k : Nat) : Nat := sm (fun e => b1 (eap D k e)) (D 5)
def od (D : Nat → Nat) (k : Nat) (s : Nat → Bool) : Nat := fac (cA D k s) * fac (cB D k s)
def prd (D : Nat → Nat) (s : Nat → Bool) : Nat → Nat
  | 0 => 1
  | k + 1 => prd D s k * od D k s
def lsS (D : Nat → Nat) (s : Nat → Bool) : Nat := sm (fun e => if s e then 2 * D (69 + e) else 0) (D 5)
def wd (D : Nat → Nat) (K : Nat) : Nat := sm (fun j => if wy D j then 2 else 0) K
def blw (D : Nat → Nat) (K : Nat) (e : Nat) : Bool := exb (fun k => eap D k e) K
/-- in how many orders just t minutes are lost before place K -/
def Wf (D : Nat → Nat) (K t : Nat) : Nat := SS (blw D K) (D 5) (fun s => if lsS D s + wd D K = t then prd D s K else 0)
def prf (D : Nat → Nat) : Nat → Nat
  | 0 => 1
  | k + 1 => prf D k * fac (cN D k + 1)
theorem b1_or {a b : Bool} (h : ¬ (a = true ∧ b = true)) : b1 (a || b) = b1 a + b1 b := by
  cases a <;> cases b <;> first | rfl | exact absurd ⟨rfl, rfl⟩ h
theorem cAB (D : Nat → Nat) (k : Nat) (s : Nat → Bool) : cA D k s + cB D k s = cN D k := by
  unfold cA cB cN
  rw [← sm_add]
  refine sm_cong (fun e _ => ?_)
  cases eap D k e <;> cases s e <;> rfl
theorem cA_cong {D : Nat → Nat} {k : Nat} {s t : Nat → Bool} (h : ∀ e, e < D 5 → eap D k e = true → s e = t e) : cA D k s = cA D k t :=
  sm_cong (fun e he => by
    cases q : eap D k e
    · rfl
    · show b1 (true && s e) = b1 (true && t e)
      rw [h e he q])
theorem od_cong {D : Nat → Nat} {k : Nat} {s t : Nat → Bool} (h : ∀ e, e < D 5 → eap D k e = true → s e = t e) : od D k s = od D k t := by
  have a := cA_cong h
  have b : cB D k s = cB D k t := by have := cAB D k s; have := cAB D k t; omega
  unfold od
  rw [a, b]
theorem prd_cong {D : Nat → Nat} {s t : Nat → Bool} : ∀ {K : Nat}, (∀ k, k < K → ∀ e, e < D 5 → eap D k e = true → s e = t e) → prd D s K = prd D t K
  | 0, _ => rfl
  | K + 1, h => by rw [prd, prd, prd_cong (fun k hk => h k (by omega)), od_cong (h K (by omega))]
theorem prd_pos (D : Nat → Nat) (s : Nat → Bool) : ∀ K, 0 < prd D s K
  | 0 => Nat.one_pos
  | K + 1 => Nat.mul_pos (prd_pos D s K) (Nat.mul_pos (fac_pos _) (fac_pos _))
theorem prd_le (D : Nat → Nat) (s : Nat → Bool) : ∀ K, prd D s K ≤ fac (sm (cN D) K)
  | 0 => Nat.le_refl _
  | K + 1 => by
    rw [prd, sm]
    refine Nat.le_trans (Nat.mul_le_mul (prd_le D s K) ?_) (fac_mul _ _)
    unfold od
    exact Nat.le_trans (fac_mul _ _) (by rw [cAB]; exact Nat.le_refl _)
theorem eap_one {D : Nat → Nat} (hw : wf D) {j k e : Nat} (hj : j < D 4) (hk : k < D 4) (h1 : eap D j e = true) (h2 : eap D k e = true) : j = k := by
  have a := of_decide_eq_true h1
  have b := of_decide_eq_true h2
  have hd := hw.2.2.2.2.2.2.1
  rcases Nat.lt_trichotomy j k with h | h | h
  · exact absurd (a.symm.trans b) (hd j k h hk)
  · exact h
  · exact absurd (b.symm.trans a) (hd k j h hj)
theorem blw_dis {D : Nat → Nat} (hw : wf D) {K e : Nat} (hK : K < D 4) : ¬ (blw D K e = true ∧ eap D K e = true) := by
  intro ⟨a, b⟩
  obtain ⟨k, hk, h⟩ := exb_iff.mp a
  have := eap_one hw (by omega) hK h b
  omega
theorem blw_all {D : Nat → Nat} (hw : wf D) {e : Nat} (he : e < D 5) : blw D (D 4 - 1) e = true := by
  obtain ⟨k, h1, h2, _⟩ := hw.2.2.2.2.2.2.2.2.1 e he
  exact exb_iff.mpr ⟨k, by omega, decide_eq_true h2⟩
theorem cN_all {D : Nat → Nat} (hw : wf D) : sm (cN D) (D 4 - 1) ≤ D 5 := by
  unfold cN
  rw [sm_swap]
  refine Nat.le_trans (sm_le (c := 1) (fun e he => ?_)) (by omega)
  have : ∀ K, K < D 4 → sm (fun k => b1 (eap D k e)) K = b1 (blw D K e) := by
    intro K
    induction K with
    | zero => intro _; rfl
    | succ K ih =>
      intro h
      rw [sm, ih (by omega)]
      show _ = b1 (blw D K e || eap D K e)
      rw [b1_or (blw_dis hw (by omega))]
  rcases Nat.eq_zero_or_pos (D 4) with z | z
  · rw [z]; exact Nat.zero_le _
  · rw [this (D 4 - 1) (by omega)]
    unfold b1
    split <;> omega
theorem prd_bd {D : Nat → Nat} (hw : wf D) (s : Nat → Bool) : prd D s (D 4 - 1) ≤ 40320 :=
  Nat.le_trans (prd_le D s _) (Nat.le_trans (fac_mono (Nat.le_trans (cN_all hw) (bnd_of hw).2.2.1)) (by decide))
/-- two sets without a common end -/
theorem two_sets {D : Nat → Nat} (hw : wf D) {K : Nat} (hK : K < D 4) {s a : Nat → Bool} (hs : ∀ e, s e = true → e < D 5 ∧ blw D K e = true) (ha : ∀ e, a e = true → e < D 5 ∧ eap D K e = true) : lsS D (fun e => s e || a e) = lsS D s + lsS D a ∧ prd D (fun e => s e || a e) (K + 1) = prd D s K * od D K a := by
  have dis : ∀ e, ¬ (s e = true ∧ a e = true) := fun e ⟨h1, h2⟩ => blw_dis hw hK ⟨(hs e h1).2, (ha e h2).2⟩
  constructor
  · unfold lsS
    rw [← sm_add]
    refine sm_cong (fun e _ => ?_)
    have := dis e
    cases h1 : s e <;> cases h2 : a e <;> simp [h1, h2] at this ⊢
  · rw [prd]
    congr 1
    · refine prd_cong (fun k hk e he q => ?_)
      cases h2 : a e
      · exact Bool.or_false _
      · have := eap_one hw (by omega) hK q (ha e h2).2
        omega
    · refine od_cong (fun e he q => ?_)
      cases h1 : s e
      · exact Bool.false_or _
      · exact absurd ⟨(hs e h1).2, q⟩ (blw_dis hw hK)
theorem SS_step {D : Nat → Nat} (hw : wf D) {K : Nat} (hK : K < D 4) (f : (Nat → Bool) → Nat) : SS (blw D (K + 1)) (D 5) f = SS (eap D K) (D 5) (fun a => SS (blw D K) (D 5) (fun s => f (fun e => s e || a e))) := by
  rw [← SS_split (fun e _ => blw_dis hw hK)]
  rfl
def w2 (D : Nat → Nat) (k : Nat) : Nat := if wy D k then 2 else 0
theorem Wf_0 (D : Nat → Nat) (t : Nat) : Wf D 0 t = if t = 0 then 1 else 0 := by
  unfold Wf
  rw [SS_none (p := blw D 0) (fun _ _ => rfl)]
  have z : lsS D (fun _ => false) = 0 := sm_zero (fun _ _ => rfl)
  have : lsS D (fun _ => false) + wd D 0 = 0 := by rw [z]; rfl
  rw [this]
  by_cases q : t = 0
  · rw [if_pos q, if_pos q.symm]; rfl
  · rw [if_neg q, if_neg (fun w => q w.symm)]
theorem Wf_step {D : Nat → Nat} (hw : wf D) {K t : Nat} (hK : K < D 4) : Wf D (K + 1) t = SS (eap D K) (D 5) (fun a => if lsS D a + w2 D K ≤ t then Wf D K (t - (lsS D a + w2 D K)) * od D K a else 0) := by
  unfold Wf
  rw [SS_step hw hK]
  refine SS_cong (fun a ha => ?_)
  have hwd : wd D (K + 1) = wd D K + w2 D K := rfl
  by_cases q : lsS D a + w2 D K ≤ t
  · rw [if_pos q, ← SS_mul]
    refine SS_cong (fun s hs => ?_)
    obtain ⟨e1, e2⟩ := two_sets hw hK hs ha
    rw [e1, e2, hwd]
    by_cases w : lsS D s + wd D K = t - (lsS D a + w2 D K)
    · rw [if_pos w, if_pos (by omega)]
    · rw [if_neg w, if_neg (by omega), Nat.zero_mul]
  · rw [if_neg q]
    refine (SS_cong (g := fun _ => 0) (fun s hs => ?_)).trans SS_zero
    obtain ⟨e1, e2⟩ := two_sets hw hK hs ha
    rw [e1, hwd, if_neg (by omega)]
theorem lsS_le {D : Nat → Nat} (hw : wf D) (s : Nat → Bool) : lsS D s ≤ 80 := by
  have hb := bnd_of hw
  have h5 := hb.2.2.1
  have : lsS D s ≤ D 5 * 10 := sm_le (fun e he => by have := (hb.2.2.2.2.2 e he).2.2; split <;> omega)
  omega
theorem wd_le {D : Nat → Nat} (hw : wf D) {K : Nat} (hK : K < 7) : wd D K ≤ 12 := by
  have : wd D K ≤ K * 2 := sm_le (fun e he => by split <;> omega)
  omega
/-- the part -/
theorem part_eq {D : Nat → Nat} (hw : wf D) (st mi : Nat) : sm (fun t => if st + t ≤ mi then Wf D (D 4 - 1) t else 0) 128 = sm (fun s => if st + (lsS D (fun e => s.testBit e) + wd D (D 4 - 1)) ≤ mi then prd D (fun e => s.testBit e) (D 4 - 1) else 0) (2 ^ D 5) := by
  have h4 := (bnd_of hw).2.1
  rw [SS_all (fun s => if st + (lsS D s + wd D (D 4 - 1)) ≤ mi then prd D s (D 4 - 1) else 0)]
  rw [SS_pcong (q := blw D (D 4 - 1)) (fun e he => (blw_all hw he).symm)]
  have e1 : ∀ t, (if st + t ≤ mi then Wf D (D 4 - 1) t else 0) = SS (blw D (D 4 - 1)) (D 5) (fun s => if st + t ≤ mi then (if lsS D s + wd D (D 4 - 1) = t then prd D s (D 4 - 1) else 0) else 0) := by
    intro t
    by_cases q : st + t ≤ mi
    · simp only [q, if_true]; rfl
    · simp only [q, if_false]; exact SS_zero.symm
  rw [sm_cong (fun t _ => e1 t), ← SS_sm]
  refine SS_cong (fun s _ => ?_)
  have hl := lsS_le hw s
  have hwd := wd_le hw (K := D 4 - 1) (by omega)
  rw [sm_one (a := lsS D s + wd D (D 4 - 1)) (by omega) (fun k _ hk => by rw [if_neg (c := lsS D s + wd D (D 4 - 1) = k) (fun w => hk w.symm)]; split <;> rfl)]
  rw [if_pos (c := lsS D s + wd D (D 4 - 1) = lsS D s + wd D (D 4 - 1)) rfl]
/-- all orders at one place -/
theorem od_gen (p : Nat → Bool) : ∀ n i j, SS p n (fun a => fac (sm (fun e => b1 (p e && a e)) n + i) * fac (sm (fun e => b1 (p e && !a e)) n + j)) * fac (i + j + 1) = fac (sm (fun e => b1 (p e)) n + i + j + 1) * (fac i * fac j)
  | 0, i, j => by
    show fac (0 + i) * fac (0 + j) * fac (i + j + 1) = fac (0 + i + j + 1) * (fac i * fac j)
    rw [Nat.zero_add, Nat.zero_add, Nat.mul_comm]
  | n + 1, i, j => by
    have up : ∀ a : Nat → Bool, sm (fun e => b1 (p e && up1 a n e)) n = sm (fun e => b1 (p e && a e)) n := fun a => sm_cong (fun e he => by rw [up1_o a (by omega)])
    have up' : ∀ a : Nat → Bool, sm (fun e => b1 (p e && !up1 a n e)) n = sm (fun e => b1 (p e && !a e)) n := fun a => sm_cong (fun e he => by rw [up1_o a (by omega)])
    cases hp : p n
    · have e : SS p (n + 1) (fun a => fac (sm (fun e => b1 (p e && a e)) (n + 1) + i) * fac (sm (fun e => b1 (p e && !a e)) (n + 1) + j)) = SS p n (fun a => fac (sm (fun e => b1 (p e && a e)) n + i) * fac (sm (fun e => b1 (p e && !a e)) n + j)) := by
        rw [SS, hp]
        refine SS_cong (fun s hs => ?_)
        rw [sm, sm, hp]
        rfl
      rw [e, od_gen p n i j, sm, hp]
      rfl
    · have e : SS p (n + 1) (fun a => fac (sm (fun e => b1 (p e && a e)) (n + 1) + i) * fac (sm (fun e => b1 (p e && !a e)) (n + 1) + j)) = SS p n (fun a => fac (sm (fun e => b1 (p e && a e)) n + i) * fac (sm (fun e => b1 (p e && !a e)) n + (j + 1))) + SS p n (fun a => fac (sm (fun e => b1 (p e && a e)) n + (i + 1)) * fac (sm (fun e => b1 (p e && !a e)) n + j)) := by
        rw [SS, hp, if_pos rfl]
        congr 1
        · refine SS_cong (fun s hs => ?_)
          have sn : s n = false := by
            cases q : s n
            · rfl
            · have := (hs n q).1; omega
          rw [sm, sm, hp, sn]
          show fac (sm (fun e => b1 (p e && s e)) n + 0 + i) * fac (sm (fun e => b1 (p e && !s e)) n + 1 + j) = _
          rw [Nat.add_zero (sm (fun e => b1 (p e && s e)) n), Nat.add_assoc _ 1 j, Nat.add_comm 1 j]
        · refine SS_cong (fun s hs => ?_)
          rw [sm, sm, hp, up1_n, up, up']
          show fac (sm (fun e => b1 (p e && s e)) n + 1 + i) * fac (sm (fun e => b1 (p e && !s e)) n + 0 + j) = _
          rw [Nat.add_zero (sm (fun e => b1 (p e && !s e)) n), Nat.add_assoc _ 1 i, Nat.add_comm 1 i]
      rw [e]
      have a1 := od_gen p n i (j + 1)
      have a2 := od_gen p n (i + 1) j
      generalize SS p n (fun a => fac (sm (fun e => b1 (p e && a e)) n + i) * fac (sm (fun e => b1 (p e && !a e)) n + (j + 1))) = A at a1 ⊢
      generalize SS p n (fun a => fac (sm (fun e => b1 (p e && a e)) n + (i + 1)) * fac (sm (fun e => b1 (p e && !a e)) n + j)) = B at a2 ⊢
      rw [sm, hp]
      show (A + B) * fac (i + j + 1) = fac (sm (fun e => b1 (p e)) n + 1 + i + j + 1) * (fac i * fac j)
      generalize sm (fun e => b1 (p e)) n = c at a1 a2 ⊢
      have n1 : i + (j + 1) + 1 = (i + j + 1) + 1 := by omega
      have n2 : i + 1 + j + 1 = (i + j + 1) + 1 := by omega
      have n3 : c + i + (j + 1) + 1 = c + 1 + i + j + 1 := by omega
      have n4 : c + (i + 1) + j + 1 = c + 1 + i + j + 1 := by omega
      rw [n1, n3, fac] at a1
      rw [n2, n4, fac] at a2
      generalize fac (c + 1 + i + j + 1) = F at *
      generalize fac (i + j + 1) = G at *
      have f1 : fac (j + 1) = fac j * (j + 1) := rfl
      have f2 : fac (i + 1) = fac i * (i + 1) := rfl
      rw [f1] at a1
      rw [f2] at a2
      generalize fac i = I at *
      generalize fac j = J at *
      refine Nat.eq_of_mul_eq_mul_right (show 0 < i + j + 1 + 1 by omega) ?_
      have b1' : A * (G * (i + j + 1 + 1)) + B * (G * (i + j + 1 + 1)) = (A + B) * G * (i + j + 1 + 1) := by rw [Nat.add_mul, Nat.add_mul, Nat.mul_assoc, Nat.mul_assoc]
      rw [← b1', a1, a2]
      have c1 : F * (I * (J * (j + 1))) = F * (I * J) * (j + 1) := by rw [Nat.mul_assoc F, Nat.mul_assoc I]
      have c2 : F * (I * (i + 1) * J) = F * (I * J) * (i + 1) := by rw [Nat.mul_assoc F, Nat.mul_assoc I, Nat.mul_assoc I, Nat.mul_comm (i + 1)]
      rw [c1, c2, ← Nat.mul_add]
      congr 1
      omega
theorem od_all (D : Nat → Nat) (k : Nat) : SS (eap D k) (D 5) (od D k) = fac (cN D k + 1) := by
  have := od_gen (eap D k) (D 5) 0 0
  rw [show fac (0 + 0 + 1) = 1 from rfl, show fac 0 = 1 from rfl, Nat.mul_one, Nat.mul_one] at this
  exact this
theorem whole_K {D : Nat → Nat} (hw : wf D) : ∀ {K : Nat}, K ≤ D 4 → SS (blw D K) (D 5) (fun s => prd D s K) = prf D K
  | 0, _ => SS_none (fun _ _ => rfl)
  | K + 1, h => by
    rw [SS_step hw (by omega), prf, ← od_all]
    rw [Nat.mul_comm, ← SS_mul]
    refine SS_cong (fun a ha => ?_)
    rw [← whole_K hw (K := K) (by omega), Nat.mul_comm, ← SS_mul]
    exact SS_cong (fun s hs => (two_sets hw (by omega) hs ha).2)
theorem whole_eq {D : Nat → Nat} (hw : wf D) : prf D (D 4 - 1) = sm (fun s => prd D (fun e => s.testBit e) (D 4 - 1)) (2 ^ D 5) := by
  rw [SS_all (fun s => prd D s (D 4 - 1)), ← whole_K hw (by omega)]
  exact SS_pcong (fun e he => blw_all hw he)
theorem whole_bd {D : Nat → Nat} (hw : wf D) : 0 < prf D (D 4 - 1) ∧ prf D (D 4 - 1) < 2 ^ 31 := by
  rw [← whole_K hw (by omega)]
  have h5 := (bnd_of hw).2.2.1
  have h := SS_le (p := blw D (D 4 - 1)) (n := D 5) (c := 40320) (fun s => prd_bd hw s)
  have : 2 ^ D 5 ≤ 2 ^ 8 := Nat.pow_le_pow_right (by omega) h5
  exact ⟨SS_pos (fun s => prd_pos D s _), by omega⟩
theorem part_bd {D : Nat → Nat} (hw : wf D) (st mi : Nat) : sm (fun t => if st + t ≤ mi then Wf D (D 4 - 1) t else 0) 128 < 2 ^ 31 := by
  rw [part_eq hw, SS_all (fun s => if st + (lsS D s + wd D (D 4 - 1)) ≤ mi then prd D s (D 4 - 1) else 0)]
  have h5 := (bnd_of hw).2.2.1
  have h := SS_le (p := fun _ => true) (n := D 5) (c := 40320) (f := fun s => if st + (lsS D s + wd D (D 4 - 1)) ≤ mi then prd D s (D 4 - 1) else 0) (fun s => by have := prd_bd hw s; split <;> omega)
  have : 2 ^ D 5 ≤ 2 ^ 8 := Nat.pow_le_pow_right (by omega) h5
  omega
