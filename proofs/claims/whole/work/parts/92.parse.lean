/-! ===== a country's text: words ===== -/
/-- the figure at q, if it is one -/
def fig (c : Nat → Int32) (n q : Nat) (lo hi : Nat) : Option Nat := if q < n ∧ (lo : Int) ≤ (c q - nI 48).toInt ∧ (c q - nI 48).toInt ≤ (hi : Int) then some (c q - nI 48).toInt.toNat else none
theorem fig_some {c : Nat → Int32} {n q lo hi f : Nat} (h : fig c n q lo hi = some f) : q < n ∧ c q - nI 48 = nI f ∧ lo ≤ f ∧ f ≤ hi := by
  unfold fig at h
  split at h
  · rename_i w
    have e : (c q - nI 48).toInt.toNat = f := by simpa using h
    refine ⟨w.1, ?_, by omega, by omega⟩
    have hx : (c q - nI 48).toInt = (f : Int) := by omega
    have hl := Int32.toInt_lt (c q - nI 48)
    apply Int32.toInt_inj.mp
    rw [hx, nI_toInt (by omega)]
  · exact absurd h (by simp)
theorem fig_in {c : Nat → Int32} {n q lo hi f : Nat} (hq : q < n) (h : c q - nI 48 = nI f) (h1 : lo ≤ f) (h2 : f ≤ hi) (hb : f < 2 ^ 31) : fig c n q lo hi = some f := by
  unfold fig
  rw [h, nI_toInt hb, if_pos ⟨hq, by omega, by omega⟩]
  simp
theorem fig_none {c : Nat → Int32} {n q lo hi : Nat} (h : fig c n q lo hi = none) (hq : q < n) {f : Nat} (hf : f < 2 ^ 31) (h1 : lo ≤ f) (h2 : f ≤ hi) : c q - nI 48 ≠ nI f := fun e => by
  rw [fig_in hq e h1 h2 hf] at h
  exact absurd h (by simp)
/-- which kind a letter names -/
def kdl (c : Int32) : Option Nat := if c = nI 104 then some 0 else if c = nI 113 then some 1 else if c = nI 115 then some 2 else if c = nI 97 then some 3 else if c = nI 108 then some 4 else if c = nI 116 then some 5 else none
theorem kdl_le {c : Int32} {k : Nat} (h : kdl c = some k) : k ≤ 5 := by
  unfold kdl at h
  repeat' split at h
  all_goals first | (have := Option.some.inj h; omega) | exact absurd h (by simp)
/-- what is read of it -/
def adO (D : Nat → Nat) (pl hd : Nat) : Nat → Nat := fun j => if j = 0 then pl else if j = 3 then hd else D j
def adH (D : Nat → Nat) (kd : Nat) : Nat → Nat := fun j => if j = 1 then D 1 + 1 else if j = 6 + D 1 then kd else D j
def adP (D : Nat → Nat) (x y m : Nat) : Nat → Nat := fun j => if j = 2 then D 2 + 1 else if j = 10 + D 2 then x else if j = 22 + D 2 then y else if j = 34 + D 2 then m else D j
/-- one item: where it goes wrong, or where it ends and what is read -/
def itO (c : Nat → Int32) (n : Nat) (D : Nat → Nat) (p : Nat) : Sum Nat (Nat × (Nat → Nat)) :=
  if c p = nI 99 then (match fig c n (p + 1) 2 7 with
    | none => .inl (p + 1)
    | some f => match fig c n (p + 2) 0 9 with
      | none => .inl (p + 2)
      | some h => .inr (p + 3, adO D f h)) else .inl p
def itH (c : Nat → Int32) (D : Nat → Nat) (p : Nat) : Sum Nat (Nat × (Nat → Nat)) :=
  match kdl (c p) with
  | none => .inl p
  | some kd => if 0 < D 2 ∨ 4 ≤ D 1 then .inl p else .inr (p + 1, adH D kd)
def itP (c : Nat → Int32) (n : Nat) (D : Nat → Nat) (p : Nat) : Sum Nat (Nat × (Nat → Nat)) :=
  if 12 ≤ D 2 then .inl p else match fig c n (p + 1) 0 (D 0 - 1) with
    | none => .inl (p + 1)
    | some x => match fig c n (p + 2) 0 (D 0 - 1) with
      | none => .inl (p + 2)
      | some y => if y = x ∨ 0 < pm D x y then .inl (p + 2) else match fig c n (p + 3) 1 9 with
        | none => .inl (p + 3)
        | some m => .inr (p + 4, adP D x y m)
def itm (c : Nat → Int32) (n : Nat) (D : Nat → Nat) (p : Nat) (b : Bool) : Sum Nat (Nat × (Nat → Nat)) := if b then itO c n D p else if c p = nI 45 then itP c n D p else itH c D p
def prs (c : Nat → Int32) (n : Nat) : Nat → (Nat → Nat) → Nat → Bool → Sum Nat (Nat → Nat)
  | 0, _, p, _ => .inl p
  | k + 1, D, p, b => if n ≤ p then (if b then .inl p else .inr D) else if c p = nI 32 then prs c n k D (p + 1) b else match itm c n D p b with
    | .inl q => .inl q
    | .inr x => prs c n k x.2 x.1 false
theorem itm_up {c : Nat → Int32} {n p : Nat} {D : Nat → Nat} {b : Bool} {x : Nat × (Nat → Nat)} (h : itm c n D p b = .inr x) : p < x.1 := by
  unfold itm itO itH itP at h
  repeat' split at h
  all_goals first | (have := Sum.inr.inj h; subst this; show p < _; omega) | exact absurd h (by simp)
theorem prs_fuel {c : Nat → Int32} {n : Nat} : ∀ {k k' : Nat} {D : Nat → Nat} {p : Nat} {b : Bool}, n - p < k → n - p < k' → prs c n k D p b = prs c n k' D p b
  | 0, _, _, _, _, h, _ => by omega
  | _ + 1, 0, _, _, _, _, h => by omega
  | k + 1, k' + 1, D, p, b, h, h' => by
    rw [prs, prs]
    by_cases q : n ≤ p
    · rw [if_pos q, if_pos q]
    · rw [if_neg q, if_neg q]
      by_cases q2 : c p = nI 32
      · rw [if_pos q2, if_pos q2]
        exact prs_fuel (by omega) (by omega)
      · rw [if_neg q2, if_neg q2]
        cases e : itm c n D p b with
        | inl z => rfl
        | inr x =>
          have := itm_up e
          exact prs_fuel (by omega) (by omega)
def P (c : Nat → Int32) (n : Nat) (D : Nat → Nat) (p : Nat) (b : Bool) : Sum Nat (Nat → Nat) := prs c n (n - p + 1) D p b
theorem P_end {c : Nat → Int32} {n p : Nat} {D : Nat → Nat} {b : Bool} (h : n ≤ p) : P c n D p b = if b then .inl p else .inr D := by
  unfold P
  rw [prs, if_pos h]
theorem P_blank {c : Nat → Int32} {n p : Nat} {D : Nat → Nat} {b : Bool} (h : p < n) (h2 : c p = nI 32) : P c n D p b = P c n D (p + 1) b := by
  unfold P
  rw [prs, if_neg (by omega), if_pos h2]
  exact prs_fuel (by omega) (by omega)
theorem P_no {c : Nat → Int32} {n p q : Nat} {D : Nat → Nat} {b : Bool} (h : p < n) (h2 : ¬ c p = nI 32) (h3 : itm c n D p b = .inl q) : P c n D p b = .inl q := by
  unfold P
  rw [prs, if_neg (by omega), if_neg h2, h3]
theorem P_yes {c : Nat → Int32} {n p q : Nat} {D E : Nat → Nat} {b : Bool} (h : p < n) (h2 : ¬ c p = nI 32) (h3 : itm c n D p b = .inr (q, E)) : P c n D p b = P c n E q false := by
  have := itm_up h3
  simp only [] at this
  unfold P
  rw [prs, if_neg (by omega), if_neg h2, h3]
  exact prs_fuel (by omega) (by omega)
/-- what is read is a country -/
def pwf (D : Nat → Nat) : Prop := wfL D ∧ D 3 ≤ 9 ∧ D 4 = 0 ∧ D 5 = 0 ∧ D 77 = 0
theorem pwf_wf {D : Nat → Nat} (h : pwf D) : wf D := by
  obtain ⟨h1, h3, h4, h5, h77⟩ := h
  refine ⟨h1, h3, Or.inl h4, by omega, fun _ => h5, fun k hk => by omega, fun j k _ hk => by omega, fun k hk => by omega, fun e he => by omega, fun e f _ hf => by omega, ?_⟩
  rw [h77]
  exact Nat.two_pow_pos _
theorem pwf_O {D : Nat → Nat} {f h : Nat} (hp : pwf D) (h0 : D 1 = 0) (h2 : D 2 = 0) (f2 : 2 ≤ f) (f7 : f ≤ 7) (h9 : h ≤ 9) : pwf (adO D f h) ∧ 2 ≤ adO D f h 0 := by
  obtain ⟨⟨a0, a1, a2, a3, a4⟩, b3, b4, b5, b77⟩ := hp
  have e1 : adO D f h 1 = D 1 := rfl
  have e2 : adO D f h 2 = D 2 := rfl
  refine ⟨⟨⟨f7, by rw [e1]; exact a1, by rw [e2]; exact a2, fun i hi => ?_, fun k hk => ?_⟩, h9, b4, b5, b77⟩, f2⟩
  · rw [e1, h0] at hi; omega
  · rw [e2, h2] at hk; omega
theorem pmr_pre {D E : Nat → Nat} {x y : Nat} : ∀ {n : Nat}, (∀ k, k < n → E (10 + k) = D (10 + k) ∧ E (22 + k) = D (22 + k) ∧ E (34 + k) = D (34 + k)) → pmr E x y n = pmr D x y n
  | 0, _ => rfl
  | n + 1, h => by
    rw [pmr, pmr, pmr_pre (fun k hk => h k (by omega)), (h n (by omega)).1, (h n (by omega)).2.1, (h n (by omega)).2.2]
theorem pwf_H {D : Nat → Nat} {kd : Nat} (hp : pwf D) (h2 : D 2 = 0) (h4 : D 1 < 4) (hk : kd ≤ 5) : pwf (adH D kd) := by
  obtain ⟨⟨a0, a1, a2, a3, a4⟩, b3, b4, b5, b77⟩ := hp
  have lo : ∀ {j}, j ≠ 1 → j ≠ 6 + D 1 → adH D kd j = D j := fun a b => by unfold adH; rw [if_neg a, if_neg b]
  have e1 : adH D kd 1 = D 1 + 1 := rfl
  have e2 : adH D kd 2 = D 2 := lo (by omega) (by omega)
  refine ⟨⟨by rw [lo (by omega) (by omega)]; exact a0, by rw [e1]; omega, by rw [e2]; exact a2, fun i hi => ?_, fun k hk => ?_⟩, by rw [lo (by omega) (by omega)]; exact b3, by rw [lo (by omega) (by omega)]; exact b4, by rw [lo (by omega) (by omega)]; exact b5, by rw [lo (by omega) (by omega)]; exact b77⟩
  · rw [e1] at hi
    unfold adH
    rw [if_neg (by omega)]
    by_cases e : 6 + i = 6 + D 1
    · rw [if_pos e]; exact hk
    · rw [if_neg e]; exact a3 i (by omega)
  · rw [e2, h2] at hk; omega
theorem pm_H {D : Nat → Nat} {kd : Nat} (h2 : D 2 = 0) (h4 : D 1 < 4) (x y : Nat) : pm (adH D kd) x y = pm D x y := by
  have e2 : adH D kd 2 = D 2 := by unfold adH; rw [if_neg (by omega), if_neg (by omega)]
  unfold pm
  rw [e2, h2]
  rfl
theorem adP_lo {D : Nat → Nat} {x y m j : Nat} (h2 : j ≠ 2) (h10 : j ≠ 10 + D 2) (h22 : j ≠ 22 + D 2) (h34 : j ≠ 34 + D 2) : adP D x y m j = D j := by
  unfold adP
  rw [if_neg h2, if_neg h10, if_neg h22, if_neg h34]
theorem adP_new {D : Nat → Nat} {x y m : Nat} (h : D 2 < 12) : adP D x y m (10 + D 2) = x ∧ adP D x y m (22 + D 2) = y ∧ adP D x y m (34 + D 2) = m := by
  unfold adP
  refine ⟨?_, ?_, ?_⟩
  · rw [if_neg (by omega), if_pos rfl]
  · rw [if_neg (by omega), if_neg (by omega), if_pos rfl]
  · rw [if_neg (by omega), if_neg (by omega), if_neg (by omega), if_pos rfl]
theorem pwf_P {D : Nat → Nat} {x y m : Nat} (hp : pwf D) (h2 : D 2 < 12) (hx : x < D 0) (hy : y < D 0) (hxy : y ≠ x) (m1 : 1 ≤ m) (m9 : m ≤ 9) : pwf (adP D x y m) := by
  obtain ⟨⟨a0, a1, a2, a3, a4⟩, b3, b4, b5, b77⟩ := hp
  have e2 : adP D x y m 2 = D 2 + 1 := rfl
  have e0 : adP D x y m 0 = D 0 := adP_lo (by omega) (by omega) (by omega) (by omega)
  have e1 : adP D x y m 1 = D 1 := adP_lo (by omega) (by omega) (by omega) (by omega)
  refine ⟨⟨by rw [e0]; exact a0, by rw [e1]; exact a1, by rw [e2]; omega, fun i hi => ?_, fun k hk => ?_⟩, by rw [adP_lo (by omega) (by omega) (by omega) (by omega)]; exact b3, by rw [adP_lo (by omega) (by omega) (by omega) (by omega)]; exact b4, by rw [adP_lo (by omega) (by omega) (by omega) (by omega)]; exact b5, by rw [adP_lo (by omega) (by omega) (by omega) (by omega)]; exact b77⟩
  · rw [e1] at hi
    rw [adP_lo (by omega) (by omega) (by omega) (by omega)]
    exact a3 i hi
  · rw [e2] at hk
    rw [e0]
    by_cases e : k = D 2
    · subst e
      obtain ⟨n1, n2, n3⟩ := adP_new (x := x) (y := y) (m := m) h2
      rw [n1, n2, n3]
      exact ⟨hx, hy, fun q => hxy q.symm, m1, m9⟩
    · rw [adP_lo (j := 10 + k) (by omega) (by omega) (by omega) (by omega), adP_lo (j := 22 + k) (by omega) (by omega) (by omega) (by omega), adP_lo (j := 34 + k) (by omega) (by omega) (by omega) (by omega)]
      exact a4 k (by omega)
theorem pm_P {D : Nat → Nat} {x y m : Nat} (h2 : D 2 < 12) (u v : Nat) : pm (adP D x y m) u v = if (x = u ∧ y = v) ∨ (x = v ∧ y = u) then m else pm D u v := by
  have e2 : adP D x y m 2 = D 2 + 1 := rfl
  obtain ⟨n1, n2, n3⟩ := adP_new (x := x) (y := y) (m := m) h2
  unfold pm
  rw [e2, pmr, n1, n2, n3, pmr_pre (fun k hk => ⟨adP_lo (by omega) (by omega) (by omega) (by omega), adP_lo (by omega) (by omega) (by omega) (by omega), adP_lo (by omega) (by omega) (by omega) (by omega)⟩)]
