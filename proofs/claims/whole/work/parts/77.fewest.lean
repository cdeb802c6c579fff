/-! ===== fewest: words ===== -/
theorem exb_cong {p q : Nat → Bool} : ∀ {n : Nat}, (∀ j, j < n → p j = q j) → exb p n = exb q n
  | 0, _ => rfl
  | n + 1, h => by rw [exb, exb, exb_cong (fun j hj => h j (by omega)), h n (by omega)]
theorem bef_cong {c c' : Nat → Nat} {j i : Nat} (hj : c j = c' j) (hi : c i = c' i) : bef c j i = bef c' j i := by
  unfold bef
  rw [hj, hi]
/-- the minutes depend on those kinds alone, and on what is lost at the places before -/
theorem cmv_gen {D E : Nat → Nat} {H : Nat} {kd kd' : Nat → Nat} (hk : ∀ i, i < H → kd i = kd' i) (h3 : D 3 = E 3) : ∀ k, (∀ j, j < k → ck D j = ck E j ∧ sg D j = sg E j ∧ ∀ q, lo D q j = lo E q j) → ∀ i, i < H → cmv D H kd k i = cmv E H kd' k i
  | 0, _, _, _ => h3
  | k + 1, h, i, hi => by
    have ih : ∀ i, i < H → cmv D H kd k i = cmv E H kd' k i := cmv_gen hk h3 k (fun j hj => h j (by omega))
    obtain ⟨h1, h2, h4⟩ := h k (by omega)
    have hcal : cal D H kd k (cmv D H kd k) i = cal E H kd' k (cmv E H kd' k) i := by
      unfold cal
      rw [hk i hi, h1]
      congr 1
      refine exb_cong (fun j hj => ?_)
      rw [bef_cong (ih j hj) (ih i hi), ih j hj, ih i hi, hk j hj, h4]
    rw [cmv, cmv]
    unfold lvv
    rw [hcal, ih i hi, hk i hi, h4, h2]
theorem cgt_kd {D : Nat → Nat} {H k : Nat} {kd kd' : Nat → Nat} (hk : ∀ i, i < H → kd i = kd' i) : cgt D H kd k ↔ cgt D H kd' k := by
  unfold cgt
  refine exists_congr (fun i => and_congr_right (fun hi => ?_))
  rw [cmv_gen hk rfl k (fun j _ => ⟨rfl, rfl, fun _ => rfl⟩) i hi]
/-- an end at a later place changes nothing -/
theorem lo_ly {D : Nat → Nat} {y m i j : Nat} (hw : wf D) (h5 : D 5 < 8) (hi : i < D 4) (hj : j < i) : ck (lyD D (D (46 + i)) y m) j = ck D j ∧ sg (lyD D (D (46 + i)) y m) j = sg D j ∧ ∀ q, lo (lyD D (D (46 + i)) y m) q j = lo D q j := by
  have b4 := (bnd_of hw).2.1
  have hne : D (46 + i) ≠ D (46 + j) := fun w => hw.2.2.2.2.2.2.1 j i hj hi w.symm
  have e4 : lyD D (D (46 + i)) y m 4 = D 4 := lyD_o (by omega) (by omega) (by omega) (by omega)
  have et : lyD D (D (46 + i)) y m (46 + j) = D (46 + j) := lyD_t (by omega)
  have et1 : lyD D (D (46 + i)) y m (46 + j + 1) = D (46 + j + 1) := lyD_t (k := j + 1) (by omega)
  have ew : wy (lyD D (D (46 + i)) y m) j = wy D j := by
    unfold wy
    rw [et, lyD_o (by omega) (by omega) (by omega) (by omega)]
  have ec : ck (lyD D (D (46 + i)) y m) j = ck D j := by
    unfold ck
    rw [ew, e4, lyD_5, exb, et, lyD_x, decide_eq_false hne, Bool.or_false]
    congr 2
    refine exb_cong (fun e he => ?_)
    rw [(lyD_e h5 he).1]
  have es : sg (lyD D (D (46 + i)) y m) j = sg D j := by
    unfold sg
    rw [et, et1, pm_cong lyD_eqL hw.1.2.2.1]
  refine ⟨ec, es, fun q => ?_⟩
  have el : ∀ b, los (lyD D (D (46 + i)) y m) b j (D 5 + 1) = los D b j (D 5) := by
    intro b
    have ez : cnd (lyD D (D (46 + i)) y m) b j (D 5) = false := by
      unfold cnd
      rw [lyD_x, et, decide_eq_false hne]
      rfl
    unfold los
    rw [ew, sm, ez]
    show _ + (sm _ (D 5) + 0) = _
    rw [Nat.add_zero]
    congr 1
    refine sm_cong (fun e he => ?_)
    unfold cnd
    rw [ew, et, et1, (lyD_e h5 he).1, (lyD_e h5 he).2.1, (lyD_e h5 he).2.2]
  unfold lo
  rw [ec, lyD_5, el]
/-- the hares come home -/
def hmE (E : Nat → Nat) : Prop := ∀ j, 1 ≤ j → j < E 4 → ¬ cgt E (E 1) (kds E) j
def l5 (D : Nat → Nat) (c : Nat) : Nat → Nat := lyD D (c / 10) (c % 10) 5
theorem prune {D : Nat → Nat} {c i k : Nat} (hw : wf D) (h5 : D 5 < 8) (hi : i < D 4) (hx : D (46 + i) = c / 10) (hk : k ≤ i) : cgt (l5 D c) (l5 D c 1) (kds (l5 D c)) k ↔ cgt D (D 1) (kds D) k := by
  have w1 := hw.1.2.1
  have e1 : l5 D c 1 = D 1 := lyD_o (by omega) (by omega) (by omega) (by omega)
  have e3 : l5 D c 3 = D 3 := lyD_o (by omega) (by omega) (by omega) (by omega)
  have hkd : ∀ i, i < D 1 → kds (l5 D c) i = kds D i := fun i hi => lyD_o (by omega) (by omega) (by omega) (by omega)
  have hj : ∀ j, j < k → ck (l5 D c) j = ck D j ∧ sg (l5 D c) j = sg D j ∧ ∀ q, lo (l5 D c) q j = lo D q j := fun j hj => by
    unfold l5
    rw [← hx]
    exact lo_ly hw h5 hi (by omega)
  have eh : hrs (l5 D c) k = hrs D k := sm_cong (fun j h => (hj j h).2.1)
  rw [e1]
  unfold cgt
  rw [eh]
  refine exists_congr (fun q => and_congr_right (fun hq => ?_))
  rw [cmv_gen hkd e3 k hj q hq]
/-- none of the sets of r more codes from s on brings them home; the first that does -/
def nn (D : Nat → Nat) : Nat → (Nat → Nat) → Nat → Prop
  | 0, E, _ => ¬ hmE E
  | r + 1, E, s => ∀ c, s ≤ c → c < 70 → adB D c = true → nn D r (l5 E c) (c + 1)
def fd (D : Nat → Nat) : List Nat → (Nat → Nat) → Nat → Prop
  | [], E, _ => hmE E
  | c :: L, E, s => s ≤ c ∧ c < 70 ∧ adB D c = true ∧ (∀ c', s ≤ c' → c' < c → adB D c' = true → nn D L.length (l5 E c') (c' + 1)) ∧ fd D L (l5 E c) (c + 1)
def pf (D : Nat → Nat) : Nat → (Nat → Nat) → Nat → Prop
  | 0, _, _ => True
  | r + 1, E, s => ¬ hmE E ∧ ∀ c, s ≤ c → c < 70 → adB D c = true → pf D r (l5 E c) (c + 1)
theorem pf_of {D : Nat → Nat} : ∀ {r : Nat} {E : Nat → Nat} {s : Nat}, (∀ q, q < r → nn D q E s) → pf D r E s
  | 0, _, _, _ => trivial
  | r + 1, E, s, h => ⟨h 0 (by omega), fun c h1 h2 h3 => pf_of (fun q hq => h (q + 1) (by omega) c h1 h2 h3)⟩
/-- a country with more ends -/
def mor (D E : Nat → Nat) (dp s : Nat) : Prop := wf E ∧ E 5 = D 5 + dp ∧ (∀ j, j < 53 → j ≠ 5 → E j = D j) ∧ ∀ c, s ≤ c → c < 70 → adB D c = true → adm E (c / 10) (c % 10)
theorem mor_0 {D : Nat → Nat} (hw : wf D) : mor D D 0 0 := ⟨hw, rfl, fun _ _ _ => rfl, fun c _ _ h => (adB_use h).2.2⟩
theorem mor_l {D E : Nat → Nat} {dp s c : Nat} (h : mor D E dp s) (h5 : D 5 + dp < 8) (hs : s ≤ c) (hc : c < 70) (ha : adB D c = true) : mor D (l5 E c) (dp + 1) (c + 1) := by
  obtain ⟨h1, h2, h3, h4⟩ := h
  have hw := wf_ly h1 (by omega) (h4 c hs hc ha) (by rw [h3 0 (by omega) (by omega)]; exact (adB_use ha).2.1) (m := 5) (by omega) (by omega)
  refine ⟨hw, ?_, fun j hj hj5 => ?_, fun c' q1 q2 q3 => ?_⟩
  · show E 5 + 1 = _
    omega
  · rw [← h3 j hj hj5]
    exact lyD_o hj5 (by omega) (by omega) (by omega)
  · obtain ⟨k, k1, k2, k3, k4, k5⟩ := h4 c' (by omega) q2 q3
    have b4 := (bnd_of h1).2.1
    refine ⟨k, ?_, ?_, ?_, ?_, fun e he => ?_⟩
    · rw [show l5 E c 4 = E 4 from lyD_o (by omega) (by omega) (by omega) (by omega)]; exact k1
    · rw [show l5 E c (46 + k) = E (46 + k) from lyD_t (by omega)]; exact k2
    · unfold l5; rw [pm_cong lyD_eqL h1.1.2.2.1]; exact k3
    · rw [show l5 E c (46 + k + 1) = E (46 + k + 1) from lyD_t (k := k + 1) (by omega)]; exact k4
    · have he : e < E 5 + 1 := he
      by_cases w : e = E 5
      · subst w
        unfold l5
        rw [lyD_x, lyD_y]
        omega
      · unfold l5
        rw [(lyD_e (by omega) (show e < E 5 by omega)).1, (lyD_e (by omega) (show e < E 5 by omega)).2.1]
        exact k5 e (by omega)
