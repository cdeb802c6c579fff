/-! ===== the chase: words ===== -/
def exb (p : Nat → Bool) : Nat → Bool
  | 0 => false
  | n + 1 => exb p n || p n
theorem exb_iff {p : Nat → Bool} : ∀ {n : Nat}, exb p n = true ↔ ∃ j, j < n ∧ p j = true
  | 0 => ⟨fun h => absurd h (by simp [exb]), fun ⟨j, h, _⟩ => by omega⟩
  | n + 1 => by
    rw [exb, Bool.or_eq_true, exb_iff (n := n)]
    refine ⟨fun h => ?_, fun ⟨j, h1, h2⟩ => ?_⟩
    · rcases h with ⟨j, h1, h2⟩ | h
      · exact ⟨j, by omega, h2⟩
      · exact ⟨n, by omega, h⟩
    · by_cases e : j = n
      · exact Or.inr (e ▸ h2)
      · exact Or.inl ⟨j, by omega, h2⟩
/-- a set of the first n numbers, as bits -/
def bs (p : Nat → Bool) : Nat → Nat
  | 0 => 0
  | n + 1 => bs p n + if p n then 2 ^ n else 0
theorem bs_lt (p : Nat → Bool) : ∀ n, bs p n < 2 ^ n
  | 0 => by simp [bs]
  | n + 1 => by
    have := bs_lt p n
    rw [bs, Nat.pow_succ]
    split <;> omega
theorem bs_cong {p q : Nat → Bool} : ∀ {n : Nat}, (∀ k, k < n → p k = q k) → bs p n = bs q n
  | 0, _ => rfl
  | n + 1, h => by rw [bs, bs, bs_cong (fun k hk => h k (by omega)), h n (by omega)]
theorem bs_or1 (p : Nat → Bool) (n : Nat) : bs p n ||| 2 ^ n = bs p n + 2 ^ n := by
  have := Nat.two_pow_add_eq_or_of_lt (bs_lt p n) 1
  rw [Nat.mul_one] at this
  rw [Nat.or_comm, ← this, Nat.add_comm]
theorem bs_tb (p : Nat → Bool) : ∀ n e, (bs p n).testBit e = (decide (e < n) && p e)
  | 0, e => by simp [bs]
  | n + 1, e => by
    rw [bs]
    have ih := bs_tb p n e
    by_cases h : p n = true
    · rw [if_pos h, ← bs_or1, Nat.testBit_or, ih, Nat.testBit_two_pow]
      by_cases e1 : n = e
      · subst e1; simp [h]
      · have : (e < n + 1) ↔ (e < n) := by omega
        simp [e1, this]
    · rw [if_neg h, Nat.add_zero, ih]
      by_cases e1 : n = e
      · subst e1; simp [h]
      · have : (e < n + 1) ↔ (e < n) := by omega
        simp [this]
theorem wb_tb2 (w e : Nat) : wb w e = if w.testBit e then 1 else 0 := by
  unfold wb
  rw [Nat.testBit_eq_decide_div_mod_eq]
  by_cases h : w / 2 ^ e % 2 = 1
  · simp [h]
  · simp only [h, decide_false]
    show _ = 0
    omega
theorem bs_wb (p : Nat → Bool) {n e : Nat} (h : e < n) : wb (bs p n) e = if p e then 1 else 0 := by
  rw [wb_tb2, bs_tb]
  simp [h]
theorem bs_or (p q : Nat → Bool) (n : Nat) : bs p n ||| bs q n = bs (fun k => p k || q k) n := by
  apply Nat.eq_of_testBit_eq
  intro e
  rw [Nat.testBit_or, bs_tb, bs_tb, bs_tb]
  cases decide (e < n) <;> simp
theorem bs_none {p : Nat → Bool} : ∀ {n : Nat}, (∀ k, k < n → p k = false) → bs p n = 0
  | 0, _ => rfl
  | n + 1, h => by rw [bs, bs_none (fun k hk => h k (by omega)), h n (by omega)]; rfl
/-- a place of the trail lies in the wind -/
def wy (D : Nat → Nat) (k : Nat) : Bool := decide (wb (D 77) (D (46 + k)) = 1)
/-- a false end that those who cast forward (or not) go -/
def cnd (D : Nat → Nat) (b : Bool) (k e : Nat) : Bool := decide (D (53 + e) = D (46 + k)) && (wy D k || (decide (D (46 + k + 1) < D (61 + e)) == b))
def ck (D : Nat → Nat) (k : Nat) : Bool := decide (k + 1 < D 4) && (wy D k || exb (fun e => decide (D (53 + e) = D (46 + k))) (D 5))
def los (D : Nat → Nat) (b : Bool) (k n : Nat) : Nat := (if wy D k then 2 else 0) + sm (fun e => if cnd D b k e then 2 * D (69 + e) else 0) n
def lo (D : Nat → Nat) (kd k : Nat) : Nat := if ck D k then (if kd = 4 then 1 else los D (kd == 3) k (D 5)) else 0
theorem lo_le {D : Nat → Nat} (hb : bnd D) (kd k : Nat) : lo D kd k ≤ 82 := by
  unfold lo los
  have h : sm (fun e => if cnd D (kd == 3) k e then 2 * D (69 + e) else 0) (D 5) ≤ D 5 * 10 := sm_le (fun e he => by have := (hb.2.2.2.2.2 e he).2.2; split <;> omega)
  have := hb.2.2.1
  split
  · split
    · omega
    · split <;> omega
  · omega
theorem pce_le {kd m : Nat} (hm : m ≤ 9) : pce kd m ≤ 19 := by
  unfold pce
  split
  · omega
  · split
    · omega
    · split <;> omega
/-- j comes ahead of i -/
def bef (c : Nat → Nat) (j i : Nat) : Bool := decide (c j < c i) || (decide (c j = c i) && decide (j < i))
theorem bef_iff {c : Nat → Nat} {j i : Nat} : bef c j i = true ↔ (c j < c i ∨ (c j = c i ∧ j < i)) := by
  simp [bef]
theorem bef_tot {c : Nat → Nat} {j i : Nat} (h : ¬ bef c j i = true) (h2 : j ≠ i) : bef c i j = true := by
  rw [bef_iff] at *
  omega
theorem bef_asym {c : Nat → Nat} {j i : Nat} (h : bef c j i = true) : ¬ bef c i j = true := by
  rw [bef_iff] at *
  omega
theorem bef_trans {c : Nat → Nat} {j i l : Nat} (h : bef c j i = true) (h2 : bef c i l = true) : bef c j l = true := by
  rw [bef_iff] at *
  omega
def slo (kd : Nat) : Bool := decide (kd = 2) || decide (kd = 5)
/-- i hears a call at the place k -/
def cal (D : Nat → Nat) (H : Nat) (kd : Nat → Nat) (k : Nat) (c : Nat → Nat) (i : Nat) : Bool := slo (kd i) && ck D k && exb (fun j => bef c j i && decide (c j + lo D (kd j) k ≤ c i)) H
def lvv (D : Nat → Nat) (H : Nat) (kd : Nat → Nat) (k : Nat) (c : Nat → Nat) (i : Nat) : Nat := c i + if cal D H kd k c i then 0 else lo D (kd i) k
def cmv (D : Nat → Nat) (H : Nat) (kd : Nat → Nat) : Nat → Nat → Nat
  | 0, _ => D 3
  | k + 1, i => lvv D H kd k (cmv D H kd k) i + pce (kd i) (sg D k)
theorem lvv_le {D : Nat → Nat} (hb : bnd D) {H : Nat} {kd : Nat → Nat} {k : Nat} {c : Nat → Nat} {i : Nat} : lvv D H kd k c i ≤ c i + 82 := by
  unfold lvv
  have := lo_le hb (kd i) k
  split <;> omega
theorem cmv_le {D : Nat → Nat} (hw : wf D) {H : Nat} {kd : Nat → Nat} {i : Nat} : ∀ k, cmv D H kd k i ≤ 9 + 101 * k
  | 0 => (bnd_of hw).1
  | k + 1 => by
    have h := cmv_le hw (H := H) (kd := kd) (i := i) k
    have h2 := lvv_le (bnd_of hw) (H := H) (kd := kd) (k := k) (c := cmv D H kd k) (i := i)
    have h3 := pce_le (kd := kd i) (sg_le hw.1 k)
    rw [cmv]
    omega
/-- who hears a call: somebody ahead leaves before -/
theorem cal_iff {D : Nat → Nat} {H : Nat} {kd : Nat → Nat} {k : Nat} {c : Nat → Nat} {i : Nat} : (∃ j, j < H ∧ bef c j i = true ∧ lvv D H kd k c j ≤ c i) ↔ ∃ j, j < H ∧ bef c j i = true ∧ c j + lo D (kd j) k ≤ c i := by
  constructor
  · rintro ⟨j, h1, h2, h3⟩
    unfold lvv at h3
    by_cases hc : cal D H kd k c j = true
    · unfold cal at hc
      rw [Bool.and_eq_true, exb_iff] at hc
      obtain ⟨-, m, m1, m2⟩ := hc
      rw [Bool.and_eq_true, decide_eq_true_eq] at m2
      refine ⟨m, m1, bef_trans m2.1 h2, ?_⟩
      rw [bef_iff] at h2
      omega
    · rw [if_neg hc] at h3
      exact ⟨j, h1, h2, h3⟩
  · rintro ⟨j, h1, h2, h3⟩
    refine ⟨j, h1, h2, ?_⟩
    unfold lvv
    split <;> omega
theorem cal_eq {D : Nat → Nat} {H : Nat} {kd : Nat → Nat} {k : Nat} {c : Nat → Nat} {i : Nat} : cal D H kd k c i = true ↔ slo (kd i) = true ∧ ck D k = true ∧ ∃ j, j < H ∧ bef c j i = true ∧ lvv D H kd k c j ≤ c i := by
  rw [cal_iff]
  unfold cal
  rw [Bool.and_eq_true, Bool.and_eq_true, exb_iff, and_assoc]
  simp only [Bool.and_eq_true, decide_eq_true_eq]
/-- the least leaving time of those who left -/
def lsI (D : Nat → Nat) (H : Nat) (kd : Nat → Nat) (k : Nat) (c : Nat → Nat) (P : Nat → Prop) (x : Nat) : Prop := ∀ y, y < 1000000 → (x ≤ y ↔ ∃ j, j < H ∧ P j ∧ lvv D H kd k c j ≤ y)
theorem lsI_0 {D : Nat → Nat} {H : Nat} {kd : Nat → Nat} {k : Nat} {c : Nat → Nat} {P : Nat → Prop} (hP : ∀ j, j < H → ¬ P j) : lsI D H kd k c P 1000000 :=
  fun y hy => ⟨fun h => by omega, fun ⟨j, h1, h2, _⟩ => absurd h2 (hP j h1)⟩
theorem lsI_s {D : Nat → Nat} {H : Nat} {kd : Nat → Nat} {k : Nat} {c : Nat → Nat} {P Q : Nat → Prop} {x i : Nat} (h : lsI D H kd k c P x) (hi : i < H) (hQ : ∀ j, j < H → (Q j ↔ P j ∨ j = i)) : lsI D H kd k c Q (min x (lvv D H kd k c i)) := by
  intro y hy
  have := h y hy
  constructor
  · intro q
    by_cases hx : x ≤ y
    · obtain ⟨j, j1, j2, j3⟩ := this.mp hx
      exact ⟨j, j1, (hQ j j1).mpr (Or.inl j2), j3⟩
    · exact ⟨i, hi, (hQ i hi).mpr (Or.inr rfl), by omega⟩
  · rintro ⟨j, j1, j2, j3⟩
    rcases (hQ j j1).mp j2 with q | q
    · have := this.mpr ⟨j, j1, q, j3⟩
      omega
    · subst q
      omega
theorem lsI_cal {D : Nat → Nat} {H : Nat} {kd : Nat → Nat} {k : Nat} {c : Nat → Nat} {P : Nat → Prop} {x i : Nat} (h : lsI D H kd k c P x) (hc : c i < 1000000) (hP : ∀ j, j < H → (P j ↔ bef c j i = true)) : cal D H kd k c i = true ↔ slo (kd i) = true ∧ ck D k = true ∧ x ≤ c i := by
  rw [cal_eq, h (c i) hc]
  refine and_congr_right fun _ => and_congr_right fun _ => ?_
  exact ⟨fun ⟨j, a, b, e⟩ => ⟨j, a, (hP j a).mpr b, e⟩, fun ⟨j, a, b, e⟩ => ⟨j, a, (hP j a).mp b, e⟩⟩
/-- counting -/
theorem sm_full {p : Nat → Bool} : ∀ {n : Nat}, sm (fun k => if p k then 1 else 0) n = n → ∀ k, k < n → p k = true
  | 0, _, k, hk => by omega
  | n + 1, h, k, hk => by
    rw [sm] at h
    have h2 : sm (fun k => if p k then 1 else 0) n ≤ n * 1 := sm_le (fun k _ => by split <;> omega)
    have hp : p n = true := by
      by_cases q : p n = true
      · exact q
      · rw [if_neg q] at h; omega
    rw [if_pos hp] at h
    by_cases e : k = n
    · exact e ▸ hp
    · exact sm_full (n := n) (by omega) k (by omega)
theorem sm_some {p : Nat → Bool} {n : Nat} (h : sm (fun k => if p k then 1 else 0) n < n) : ∃ k, k < n ∧ p k = false := by
  induction n with
  | zero => omega
  | succ n ih =>
    rw [sm] at h
    by_cases q : p n = true
    · rw [if_pos q] at h
      obtain ⟨k, k1, k2⟩ := ih (by omega)
      exact ⟨k, by omega, k2⟩
    · exact ⟨n, by omega, by simpa using q⟩
theorem sm_ins {p q : Nat → Bool} {i : Nat} : ∀ {n : Nat}, i < n → p i = false → (∀ k, k < n → q k = (p k || k == i)) → sm (fun k => if q k then 1 else 0) n = sm (fun k => if p k then 1 else 0) n + 1
  | 0, h, _, _ => by omega
  | n + 1, h, hp, hq => by
    rw [sm, sm]
    by_cases e : i = n
    · subst e
      rw [sm_cong (g := fun k => if p k then 1 else 0) (fun k hk => by
        rw [hq k (by omega)]
        have : (k == i) = false := by simp; omega
        rw [this, Bool.or_false])]
      rw [hq i (by omega), hp]
      simp
    · rw [sm_ins (n := n) (by omega) hp (fun k hk => hq k (by omega)), hq n (by omega)]
      have : (n == i) = false := by simp; omega
      rw [this, Bool.or_false]
      omega
