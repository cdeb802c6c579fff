/-! ===== arithmetic, compares, the stack ===== -/
section ABP
variable {mi : ab_I} {d pc : Nat} {K : ab_K} {nx tg : ab_P} {ls : ab_L} {st : List ab_V} {M : ab_M}
/-- two ints off the stack -/
theorem abo_bin2 {f : Int32 → Int32 → Int32} (h : ab_bin f nx ls st M) : ∃ (a b : ab_V) (rest : List ab_V) (x y : Int32), st = b :: a :: rest ∧ ab_nv a = some x ∧ ab_nv b = some y ∧ nx ls (vi (f x y) :: rest) M := by
  unfold ab_bin at h
  split at h
  · rename_i b a rest
    split at h
    · rename_i x y hx hy
      exact ⟨a, b, rest, x, y, rfl, hx, hy, h⟩
    · exact h.elim
  · exact h.elim
theorem abo_bin {f : Int32 → Int32 → Int32} (row : ∀ (p : Program) (l : Launch) (e : Env) (s : State) (m : MethodId) (args : Array Value) (below : List Frame) (meth : Method) (c : Code) (H : Heap) (locs : List Loc) (lr : Array Slot) (Q : State → Prop) (rest : List Value) (x y : Int32), p.tables.exec = Jvm.exec → c.code = mi.2.1 → W p l e (ab_R d) s m args below meth c H locs 0 0 Q (F0 m (pc + 1) lr (.int (f x y) :: rest)) → W p l e (ab_R d) s m args below meth c H locs 0 0 Q (F0 m pc lr (.int y :: .int x :: rest)))
    (hn : ab_N mi d K nx (pc + 1)) (h : ab_bin f nx ls st M) : ab_At mi d pc ls st M K := by
  obtain ⟨a, b, rest, x, y, rfl, hx, hy, h⟩ := abo_bin2 h
  intro p l e s m args below meth c G H locs lr hC hW hL hO
  rw [List.map_cons, List.map_cons, ab_nv_use hx, ab_nv_use hy]
  exact row p l e s m args below meth c H locs lr _ _ x y hC.1 hC.2.1 (hn _ _ _ h p l e s m args below meth c G H locs lr hC hW hL (ab_ok_cons (ab_ok_tail (ab_ok_tail hO)) trivial))
theorem abo_dv {f : Int32 → Int32 → Int32} (row : ∀ (p : Program) (l : Launch) (e : Env) (s : State) (m : MethodId) (args : Array Value) (below : List Frame) (meth : Method) (c : Code) (H : Heap) (locs : List Loc) (lr : Array Slot) (Q : State → Prop) (rest : List Value) (x y : Int32), p.tables.exec = Jvm.exec → c.code = mi.2.1 → ¬ y = 0 → W p l e (ab_R d) s m args below meth c H locs 0 0 Q (F0 m (pc + 1) lr (.int (f x y) :: rest)) → W p l e (ab_R d) s m args below meth c H locs 0 0 Q (F0 m pc lr (.int y :: .int x :: rest)))
    (hn : ab_N mi d K nx (pc + 1)) (h : ab_dv f nx ls st M) : ab_At mi d pc ls st M K := by
  unfold ab_dv at h
  split at h
  · rename_i b a rest
    split at h
    · rename_i x y hx hy
      intro p l e s m args below meth c G H locs lr hC hW hL hO
      rw [List.map_cons, List.map_cons, ab_nv_use hx, ab_nv_use hy]
      exact row p l e s m args below meth c H locs lr _ _ x y hC.1 hC.2.1 h.1 (hn _ _ _ h.2 p l e s m args below meth c G H locs lr hC hW hL (ab_ok_cons (ab_ok_tail (ab_ok_tail hO)) trivial))
    · exact h.elim
  · exact h.elim
theorem abo_lbin {f : Int64 → Int64 → Int64} (row : ∀ (p : Program) (l : Launch) (e : Env) (s : State) (m : MethodId) (args : Array Value) (below : List Frame) (meth : Method) (c : Code) (H : Heap) (locs : List Loc) (lr : Array Slot) (Q : State → Prop) (rest : List Value) (x y : Int64), p.tables.exec = Jvm.exec → c.code = mi.2.1 → W p l e (ab_R d) s m args below meth c H locs 0 0 Q (F0 m (pc + 1) lr (.long (f x y) :: rest)) → W p l e (ab_R d) s m args below meth c H locs 0 0 Q (F0 m pc lr (.long y :: .long x :: rest)))
    (hn : ab_N mi d K nx (pc + 1)) (h : ab_lbin f nx ls st M) : ab_At mi d pc ls st M K := by
  unfold ab_lbin at h
  split at h
  · rename_i st y x rest
    intro p l e s m args below meth c G H locs lr hC hW hL hO
    exact row p l e s m args below meth c H locs lr _ _ x y hC.1 hC.2.1 (hn _ _ _ h p l e s m args below meth c G H locs lr hC hW hL (ab_ok_cons (ab_ok_tail (ab_ok_tail hO)) trivial))
  · exact h.elim
theorem abo_ldv {f : Int64 → Int64 → Int64} (row : ∀ (p : Program) (l : Launch) (e : Env) (s : State) (m : MethodId) (args : Array Value) (below : List Frame) (meth : Method) (c : Code) (H : Heap) (locs : List Loc) (lr : Array Slot) (Q : State → Prop) (rest : List Value) (x y : Int64), p.tables.exec = Jvm.exec → c.code = mi.2.1 → ¬ y = 0 → W p l e (ab_R d) s m args below meth c H locs 0 0 Q (F0 m (pc + 1) lr (.long (f x y) :: rest)) → W p l e (ab_R d) s m args below meth c H locs 0 0 Q (F0 m pc lr (.long y :: .long x :: rest)))
    (hn : ab_N mi d K nx (pc + 1)) (h : ab_ldv f nx ls st M) : ab_At mi d pc ls st M K := by
  unfold ab_ldv at h
  split at h
  · rename_i st y x rest
    intro p l e s m args below meth c G H locs lr hC hW hL hO
    exact row p l e s m args below meth c H locs lr _ _ x y hC.1 hC.2.1 h.1 (hn _ _ _ h.2 p l e s m args below meth c G H locs lr hC hW hL (ab_ok_cons (ab_ok_tail (ab_ok_tail hO)) trivial))
  · exact h.elim
theorem abo_un {f : Int32 → ab_V} (hf : ∀ x, ab_okV (f x)) (row : ∀ (p : Program) (l : Launch) (e : Env) (s : State) (m : MethodId) (args : Array Value) (below : List Frame) (meth : Method) (c : Code) (G : ab_G) (H : Heap) (locs : List Loc) (lr : Array Slot) (Q : State → Prop) (rest : List Value) (x : Int32), p.tables.exec = Jvm.exec → c.code = mi.2.1 → W p l e (ab_R d) s m args below meth c H locs 0 0 Q (F0 m (pc + 1) lr (ab_rv G (f x) :: rest)) → W p l e (ab_R d) s m args below meth c H locs 0 0 Q (F0 m pc lr (.int x :: rest)))
    (hn : ab_N mi d K nx (pc + 1)) (h : ab_un f nx ls st M) : ab_At mi d pc ls st M K := by
  unfold ab_un at h
  split at h
  · rename_i a rest
    split at h
    · rename_i x hx
      intro p l e s m args below meth c G H locs lr hC hW hL hO
      rw [List.map_cons, ab_nv_use hx]
      exact row p l e s m args below meth c G H locs lr _ _ x hC.1 hC.2.1 (hn _ _ _ h p l e s m args below meth c G H locs lr hC hW hL (ab_ok_cons (ab_ok_tail hO) (hf x)))
    · exact h.elim
  · exact h.elim
theorem abo_l2i (hd : decode mi.2.1 pc = .ok (.l2i, 1)) (hn : ab_N mi d K nx (pc + 1)) {x : Int64} (h : nx ls (vi x.toInt32 :: st) M) : ab_At mi d pc ls (vl x :: st) M K := by
  intro p l e s m args below meth c G H locs lr hC hW hL hO
  exact lv_l2i hC.1 hC.2.1 hd rfl (hn _ _ _ h p l e s m args below meth c G H locs lr hC hW hL (ab_ok_cons (ab_ok_tail hO) trivial))
theorem ab_lcmp_lt {x y : Int64} (h : x < y) : lg_cmp x y = -1 := by
  unfold lg_cmp
  have h1 : ¬ y < x := by rw [Int64.lt_iff_toInt_lt] at h ⊢; omega
  have h2 : ¬ x = y := fun q => by rw [q, Int64.lt_iff_toInt_lt] at h; omega
  simp only [gt_iff_lt, h1, h2, if_false]
theorem ab_lcmp_gt {x y : Int64} (h : y < x) : lg_cmp x y = 1 := by
  unfold lg_cmp
  simp only [gt_iff_lt, h, if_true]
theorem ab_lcmp_eq {x y : Int64} (h : x = y) : lg_cmp x y = 0 := by
  unfold lg_cmp
  subst h
  have h1 : ¬ x < x := by rw [Int64.lt_iff_toInt_lt]; omega
  simp only [gt_iff_lt, h1, if_false, if_true]
theorem abo_lcmp (hd : decode mi.2.1 pc = .ok (.lcmp, 1)) (hn : ab_N mi d K nx (pc + 1)) (h : ab_lcmp nx ls st M) : ab_At mi d pc ls st M K := by
  unfold ab_lcmp at h
  split at h
  · rename_i st y x rest
    intro p l e s m args below meth c G H locs lr hC hW hL hO
    refine W.lcmp hC.1 hC.2.1 hd ?_
    have hO' := ab_ok_tail (ab_ok_tail hO)
    by_cases h1 : x < y
    · rw [ab_lcmp_lt h1]
      exact hn _ _ _ (h.1 h1) p l e s m args below meth c G H locs lr hC hW hL (ab_ok_cons hO' (show ab_okV (.inl (-1)) by constructor <;> decide))
    · by_cases h2 : x = y
      · rw [ab_lcmp_eq h2]
        exact hn _ _ _ (h.2.1 h2) p l e s m args below meth c G H locs lr hC hW hL (ab_ok_cons hO' (show ab_okV (.inl 0) by constructor <;> decide))
      · have h3 : y < x := by
          rw [Int64.lt_iff_toInt_lt] at h1 ⊢
          rw [← Int64.toInt_inj] at h2
          omega
        rw [ab_lcmp_gt h3]
        exact hn _ _ _ (h.2.2 h3) p l e s m args below meth c G H locs lr hC hW hL (ab_ok_cons hO' (show ab_okV (.inl 1) by constructor <;> decide))
  · exact h.elim
theorem ab_cat1 {G : ab_G} {v : ab_V} (h : ∀ x, v ≠ vl x) : (ab_rv G v).category = 1 := by
  rcases lv_cat (ab_rv G v) with q | q
  · exact q
  · obtain ⟨x, hx⟩ := ab_rv_cat q
    exact absurd hx (h x)
theorem abo_dup (hd : decode mi.2.1 pc = .ok (.dup, 1)) (hn : ab_N mi d K nx (pc + 1)) (h : ab_dup nx ls st M) : ab_At mi d pc ls st M K := by
  unfold ab_dup at h
  split at h
  · exact h.elim
  · rename_i st a rest hno
    intro p l e s m args below meth c G H locs lr hC hW hL hO
    exact lv_dup hC.1 hC.2.1 hd (ab_cat1 (fun x q => by subst q; exact hno _ rfl)) (hn _ _ _ h p l e s m args below meth c G H locs lr hC hW hL (ab_ok_cons hO (ab_ok_head hO)))
  · exact h.elim
theorem abo_dup2 (hd : decode mi.2.1 pc = .ok (.dup2, 1)) (hn : ab_N mi d K nx (pc + 1)) (h : ab_dup2 nx ls st M) : ab_At mi d pc ls st M K := by
  unfold ab_dup2 at h
  split at h
  · intro p l e s m args below meth c G H locs lr hC hW hL hO
    exact lv_dup2_2 hC.1 hC.2.1 hd rfl (hn _ _ _ h p l e s m args below meth c G H locs lr hC hW hL (ab_ok_cons hO (ab_ok_head hO)))
  · exact h.elim
  · rename_i st a b rest hno1 hno2
    intro p l e s m args below meth c G H locs lr hC hW hL hO
    exact lv_dup2_11 hC.1 hC.2.1 hd (ab_cat1 (fun x q => by subst q; exact hno1 _ rfl)) (ab_cat1 (fun x q => by subst q; exact hno2 _ rfl)) (hn _ _ _ h p l e s m args below meth c G H locs lr hC hW hL (ab_ok_cons (ab_ok_cons hO (ab_ok_head (ab_ok_tail hO))) (ab_ok_head hO)))
  · exact h.elim
/-- constants compare as their values do -/
theorem ab_cv_toInt {n : Int} (h : ab_okV (.inl n)) : (ab_cv n).toInt = n := by
  obtain ⟨h1, h2⟩ := h
  cases n with
  | ofNat k =>
    have : (k : Int) ≤ 32767 := h2
    show (nI k).toInt = _
    rw [nI_toInt (by omega)]
    rfl
  | negSucc k =>
    show (-nI (k + 1)).toInt = _
    have hk : -32768 ≤ Int.negSucc k := h1
    have : (nI (k + 1)).toInt = ((k + 1 : Nat) : Int) := nI_toInt (by omega)
    rw [Int32.toInt_neg, this]
    have e : -(((k + 1 : Nat)) : Int) = Int.negSucc k := rfl
    rw [e]
    exact Int.bmod_eq_of_le (by omega) (by omega)
theorem ab_cc_cp {cd : ClassFile.Cond} {m n : Int} {A B : Prop} (hm : ab_okV (.inl m)) (hn : ab_okV (.inl n)) (h : match ab_cc cd m n with | true => A | false => B) : ab_cp cd (ab_cv m) (ab_cv n) A B := by
  have e1 := ab_cv_toInt hm
  have e2 := ab_cv_toInt hn
  cases cd <;> simp only [ab_cc] at h <;> simp only [ab_cp, ← Int32.toInt_inj, Int32.lt_iff_toInt_lt, Int32.le_iff_toInt_le, e1, e2]
  all_goals
    refine ⟨fun q => ?_, fun q => ?_⟩
    · simpa [q, Int.not_lt.mpr] using h
    · first
      | (simp [q] at h; exact h)
      | (have q' := Int.not_lt.mpr q; simp [q'] at h; exact h)
theorem ab_br_cp {cd : ClassFile.Cond} {a b : ab_V} {A B : Prop} (ha : ab_okV a) (hb : ab_okV b) (h : ab_br cd a b A B) : ∃ x y, ab_nv a = some x ∧ ab_nv b = some y ∧ ab_cp cd x y A B := by
  unfold ab_br at h
  split at h
  · rename_i m n
    exact ⟨_, _, ab_nv_inl m, ab_nv_inl n, ab_cc_cp ha hb h⟩
  · split at h
    · rename_i x y hx hy
      exact ⟨x, y, hx, hy, h⟩
    · exact h.elim
end ABP
