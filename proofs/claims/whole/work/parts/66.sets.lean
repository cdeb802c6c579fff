/-! ===== sums over sets ===== -/
/-- a set, and n -/
def up1 (s : Nat → Bool) (n : Nat) : Nat → Bool := fun e => e == n || s e
/-- the sum over all sets of numbers below n that p takes -/
def SS (p : Nat → Bool) : Nat → ((Nat → Bool) → Nat) → Nat
  | 0, f => f (fun _ => false)
  | n + 1, f => if p n then SS p n f + SS p n (fun s => f (up1 s n)) else SS p n f
theorem up1_n (s : Nat → Bool) (n : Nat) : up1 s n n = true := by simp [up1]
theorem up1_o (s : Nat → Bool) {n e : Nat} (h : e ≠ n) : up1 s n e = s e := by simp [up1, h]
theorem SS_cong {p : Nat → Bool} : ∀ {n : Nat} {f g : (Nat → Bool) → Nat}, (∀ s, (∀ e, s e = true → e < n ∧ p e = true) → f s = g s) → SS p n f = SS p n g
  | 0, _, _, h => h _ (fun e q => by simp at q)
  | n + 1, f, g, h => by
    rw [SS, SS]
    have e1 : SS p n f = SS p n g := SS_cong (fun s hs => h s (fun e q => ⟨by have := (hs e q).1; omega, (hs e q).2⟩))
    by_cases q : p n = true
    · rw [if_pos q, if_pos q, e1]
      congr 1
      refine SS_cong (fun s hs => h _ (fun e w => ?_))
      by_cases en : e = n
      · subst en; exact ⟨by omega, q⟩
      · rw [up1_o s en] at w
        exact ⟨by have := (hs e w).1; omega, (hs e w).2⟩
    · rw [if_neg q, if_neg q, e1]
theorem SS_pcong {p q : Nat → Bool} : ∀ {n : Nat} {f : (Nat → Bool) → Nat}, (∀ e, e < n → p e = q e) → SS p n f = SS q n f
  | 0, _, _ => rfl
  | n + 1, f, h => by
    have ih : ∀ g, SS p n g = SS q n g := fun g => SS_pcong (fun e he => h e (by omega))
    rw [SS, SS, ih, ih, h n (by omega)]
theorem SS_add {p : Nat → Bool} : ∀ {n : Nat} {f g : (Nat → Bool) → Nat}, SS p n (fun s => f s + g s) = SS p n f + SS p n g
  | 0, _, _ => rfl
  | n + 1, f, g => by
    rw [SS, SS, SS, SS_add (n := n) (f := f) (g := g), SS_add (n := n) (f := fun s => f (up1 s n)) (g := fun s => g (up1 s n))]
    split <;> omega
theorem SS_mul {p : Nat → Bool} {c : Nat} : ∀ {n : Nat} {f : (Nat → Bool) → Nat}, SS p n (fun s => f s * c) = SS p n f * c
  | 0, _ => rfl
  | n + 1, f => by
    rw [SS, SS, SS_mul (n := n) (f := f), SS_mul (n := n) (f := fun s => f (up1 s n))]
    split
    · rw [Nat.add_mul]
    · rfl
theorem SS_zero {p : Nat → Bool} : ∀ {n : Nat}, SS p n (fun _ => 0) = 0
  | 0 => rfl
  | n + 1 => by rw [SS, SS_zero (n := n)]; split <;> rfl
theorem SS_le {p : Nat → Bool} {c : Nat} : ∀ {n : Nat} {f : (Nat → Bool) → Nat}, (∀ s, f s ≤ c) → SS p n f ≤ 2 ^ n * c
  | 0, f, h => by rw [SS]; have := h (fun _ => false); omega
  | n + 1, f, h => by
    have a := SS_le (p := p) (n := n) h
    have b := SS_le (p := p) (n := n) (f := fun s => f (up1 s n)) (fun s => h _)
    have e : 2 ^ (n + 1) * c = 2 ^ n * c + 2 ^ n * c := by rw [Nat.pow_succ, Nat.mul_assoc, Nat.mul_comm 2 c, Nat.mul_two, Nat.mul_add]
    rw [SS, e]
    split <;> omega
theorem SS_pos {p : Nat → Bool} : ∀ {n : Nat} {f : (Nat → Bool) → Nat}, (∀ s, 0 < f s) → 0 < SS p n f
  | 0, f, h => h _
  | n + 1, f, h => by
    have a := SS_pos (p := p) (n := n) h
    rw [SS]
    split <;> omega
theorem SS_none {p : Nat → Bool} : ∀ {n : Nat} {f : (Nat → Bool) → Nat}, (∀ e, e < n → p e = false) → SS p n f = f (fun _ => false)
  | 0, _, _ => rfl
  | n + 1, f, h => by rw [SS, h n (by omega)]; exact SS_none (fun e he => h e (by omega))
theorem SS_sm {p : Nat → Bool} {n : Nat} (f : Nat → (Nat → Bool) → Nat) : ∀ m, SS p n (fun s => sm (fun t => f t s) m) = sm (fun t => SS p n (f t)) m
  | 0 => SS_zero
  | m + 1 => by
    rw [sm, ← SS_sm f m, ← SS_add]
    rfl
theorem SS_split {p q : Nat → Bool} : ∀ {n : Nat} {f : (Nat → Bool) → Nat}, (∀ e, e < n → ¬ (p e = true ∧ q e = true)) → SS (fun e => p e || q e) n f = SS q n (fun a => SS p n (fun s => f (fun e => s e || a e)))
  | 0, _, _ => rfl
  | n + 1, f, h => by
    have ih : ∀ g, SS (fun e => p e || q e) n g = SS q n (fun a => SS p n (fun s => g (fun e => s e || a e))) := fun g => SS_split (fun e he => h e (by omega))
    have hn := h n (by omega)
    have u1 : ∀ s a : Nat → Bool, (fun e => up1 s n e || a e) = up1 (fun e => s e || a e) n := fun s a => by funext e; unfold up1; rw [Bool.or_assoc]
    have u2 : ∀ s a : Nat → Bool, (fun e => s e || up1 a n e) = up1 (fun e => s e || a e) n := fun s a => by funext e; show (s e || (e == n || a e)) = (e == n || (s e || a e)); cases e == n <;> cases s e <;> cases a e <;> rfl
    cases hp : p n <;> cases hq : q n
    · simp only [SS, hp, hq, Bool.or_self, Bool.false_eq_true, if_false]
      exact ih f
    · simp only [SS, hp, hq, Bool.or_true, Bool.false_eq_true, if_false, if_true, u2]
      rw [ih, ih (fun s => f (up1 s n))]
    · simp only [SS, hp, hq, Bool.or_false, Bool.false_eq_true, if_false, if_true, u1]
      rw [ih, ih (fun s => f (up1 s n)), SS_add]
    · exact absurd ⟨hp, hq⟩ hn
theorem sm_app (f : Nat → Nat) (a : Nat) : ∀ b, sm f (a + b) = sm f a + sm (fun k => f (a + k)) b
  | 0 => rfl
  | b + 1 => by
    rw [← Nat.add_assoc, sm, sm_app f a b, sm, Nat.add_assoc]
theorem tb_up {n s : Nat} (hs : s < 2 ^ n) : (fun e => (2 ^ n + s).testBit e) = up1 (fun e => s.testBit e) n := by
  funext e
  rcases Nat.lt_trichotomy e n with h | h | h
  · rw [up1_o _ (by omega), Nat.testBit_two_pow_add_gt h]
  · subst h
    rw [up1_n, Nat.testBit_two_pow_add_eq, Nat.testBit_lt_two_pow hs]
    rfl
  · have p1 : 2 ^ (n + 1) ≤ 2 ^ e := Nat.pow_le_pow_right (by omega) h
    rw [Nat.pow_succ] at p1
    rw [up1_o _ (by omega), Nat.testBit_lt_two_pow (by omega), Nat.testBit_lt_two_pow (by omega)]
theorem tb_z : (fun e => (0 : Nat).testBit e) = fun _ => false := by funext e; exact Nat.zero_testBit e
theorem SS_all (f : (Nat → Bool) → Nat) : ∀ n, sm (fun s => f (fun e => s.testBit e)) (2 ^ n) = SS (fun _ => true) n f
  | 0 => by
    show 0 + f (fun e => (0 : Nat).testBit e) = f _
    rw [tb_z, Nat.zero_add]
  | n + 1 => by
    rw [Nat.pow_succ, Nat.mul_two, sm_app, SS, if_pos rfl, SS_all f n, ← SS_all (fun s => f (up1 s n)) n]
    congr 1
    exact sm_cong (fun s hs => by show f _ = f _; rw [tb_up hs])
theorem sub_iff {p : Nat → Bool} {n s : Nat} : s &&& bs p n = s ↔ ∀ e, s.testBit e = true → e < n ∧ p e = true := by
  constructor
  · intro h e q
    rw [← h, Nat.testBit_and, bs_tb] at q
    simp at q
    exact q.2
  · intro h
    refine Nat.eq_of_testBit_eq (fun e => ?_)
    rw [Nat.testBit_and, bs_tb]
    cases q : s.testBit e
    · rfl
    · obtain ⟨a, b⟩ := h e q
      simp [a, b]
theorem SS_sub {p : Nat → Bool} : ∀ {n : Nat} {f : (Nat → Bool) → Nat}, sm (fun s => if s &&& bs p n = s then f (fun e => s.testBit e) else 0) (2 ^ n) = SS p n f
  | 0, f => by
    show 0 + (if 0 &&& bs p 0 = 0 then f (fun e => (0 : Nat).testBit e) else 0) = f _
    rw [tb_z, Nat.zero_add, if_pos (Nat.zero_and _)]
  | n + 1, f => by
    rw [Nat.pow_succ, Nat.mul_two, sm_app, SS]
    have a : sm (fun s => if s &&& bs p (n + 1) = s then f (fun e => s.testBit e) else 0) (2 ^ n) = SS p n f := by
      rw [← SS_sub (p := p) (n := n) (f := f)]
      refine sm_cong (fun s hs => ?_)
      have : s &&& bs p (n + 1) = s ↔ s &&& bs p n = s := by
        rw [sub_iff, sub_iff]
        refine forall_congr' (fun e => imp_congr_right (fun q => ?_))
        have en : e < n := by
          rcases Nat.lt_or_ge e n with w | w
          · exact w
          · have : 2 ^ n ≤ 2 ^ e := Nat.pow_le_pow_right (by omega) w
            rw [Nat.testBit_lt_two_pow (by omega)] at q
            simp at q
        exact ⟨fun w => ⟨en, w.2⟩, fun w => ⟨by omega, w.2⟩⟩
      by_cases w : s &&& bs p n = s
      · rw [if_pos w, if_pos (this.mpr w)]
      · rw [if_neg w, if_neg (fun v => w (this.mp v))]
    have b : sm (fun k => if (2 ^ n + k) &&& bs p (n + 1) = 2 ^ n + k then f (fun e => (2 ^ n + k).testBit e) else 0) (2 ^ n) = if p n then SS p n (fun s => f (up1 s n)) else 0 := by
      by_cases hp : p n = true
      · rw [if_pos hp, ← SS_sub (p := p) (n := n) (f := fun s => f (up1 s n))]
        refine sm_cong (fun s hs => ?_)
        have : (2 ^ n + s) &&& bs p (n + 1) = 2 ^ n + s ↔ s &&& bs p n = s := by
          rw [sub_iff, sub_iff]
          have hu : ∀ e, (2 ^ n + s).testBit e = up1 (fun e => s.testBit e) n e := fun e => congrFun (tb_up hs) e
          constructor
          · intro h e q
            have en : e < n := by
              rcases Nat.lt_or_ge e n with w | w
              · exact w
              · have : 2 ^ n ≤ 2 ^ e := Nat.pow_le_pow_right (by omega) w
                rw [Nat.testBit_lt_two_pow (by omega)] at q
                simp at q
            exact ⟨en, (h e (by rw [hu, up1_o _ (by omega)]; exact q)).2⟩
          · intro h e q
            rw [hu] at q
            by_cases en : e = n
            · subst en; exact ⟨by omega, hp⟩
            · rw [up1_o _ en] at q
              exact ⟨by have := (h e q).1; omega, (h e q).2⟩
        by_cases w : s &&& bs p n = s
        · rw [if_pos w, if_pos (this.mpr w), tb_up hs]
        · rw [if_neg w, if_neg (fun v => w (this.mp v))]
      · rw [if_neg hp]
        refine sm_zero (fun s hs => if_neg (fun h => ?_))
        rw [sub_iff] at h
        exact hp (h n (by rw [congrFun (tb_up hs) n, up1_n])).2
    rw [a, b]
    split <;> rfl
theorem sm_ext {f : Nat → Nat} {a : Nat} : ∀ {b : Nat}, a ≤ b → (∀ k, a ≤ k → k < b → f k = 0) → sm f b = sm f a := by
  intro b h hz
  obtain ⟨c, rfl⟩ := Nat.exists_eq_add_of_le h
  rw [sm_app, sm_zero (f := fun k => f (a + k)) (fun k hk => hz (a + k) (by omega) (by omega)), Nat.add_zero]
theorem SS_ref {p : Nat → Bool} {n : Nat} {f : (Nat → Bool) → Nat} : sm (fun s => if s &&& bs p n = s then f (fun e => s.testBit e) else 0) (bs p n + 1) = SS p n f := by
  rw [← SS_sub (p := p) (n := n) (f := f)]
  refine (sm_ext (by have := bs_lt p n; omega) (fun k hk _ => if_neg (fun h => ?_))).symm
  have : k &&& bs p n ≤ bs p n := Nat.and_le_right
  omega
