/-! ===== an instruction each ===== -/
/-- what follows is right -/
abbrev ab_N (mi : ab_I) (d : Nat) (K : ab_K) (nx : ab_P) (pc : Nat) : Prop := ∀ (ls : ab_L) (st : List ab_V) (M : ab_M), nx ls st M → ab_At mi d pc ls st M K
section ABO
variable {mi : ab_I} {d pc : Nat} {K : ab_K} {nx tg : ab_P} {ls : ab_L} {st : List ab_V} {M : ab_M}
theorem ab_ok_tail {ls : ab_L} {v : ab_V} {st : List ab_V} (h : ab_ok ls (v :: st)) : ab_ok ls st := ⟨h.1, fun w hw => h.2 w (List.mem_cons_of_mem _ hw)⟩
theorem ab_ok_head {ls : ab_L} {v : ab_V} {st : List ab_V} (h : ab_ok ls (v :: st)) : ab_okV v := h.2 v List.mem_cons_self
theorem ab_ok_cons {ls : ab_L} {v : ab_V} {st : List ab_V} (h : ab_ok ls st) (hv : ab_okV v) : ab_ok ls (v :: st) := ⟨h.1, fun w hw => (List.mem_cons.mp hw).elim (fun e => e ▸ hv) (h.2 w)⟩
theorem abo_iconst {n : Int} (hd : decode mi.2.1 pc = .ok (.iconst n, 1)) (hv : Int32.ofInt n = ab_cv n) (hr : ab_okV (.inl n)) (hn : ab_N mi d K nx (pc + 1)) (h : nx ls (.inl n :: st) M) : ab_At mi d pc ls st M K := by
  intro p l e s m args below meth c G H locs lr hC hW hL hO
  exact lv_iconst hC.1 hC.2.1 hd hv (hn _ _ _ h p l e s m args below meth c G H locs lr hC hW hL (ab_ok_cons hO hr))
theorem abo_bipush {n : Int} (hd : decode mi.2.1 pc = .ok (.bipush n, 2)) (hv : (Int8.ofInt n).toInt32 = ab_cv n) (hr : ab_okV (.inl n)) (hn : ab_N mi d K nx (pc + 2)) (h : nx ls (.inl n :: st) M) : ab_At mi d pc ls st M K := by
  intro p l e s m args below meth c G H locs lr hC hW hL hO
  exact lv_bipush hC.1 hC.2.1 hd hv (hn _ _ _ h p l e s m args below meth c G H locs lr hC hW hL (ab_ok_cons hO hr))
theorem abo_sipush {n : Int} (hd : decode mi.2.1 pc = .ok (.sipush n, 3)) (hv : (Int16.ofInt n).toInt32 = ab_cv n) (hr : ab_okV (.inl n)) (hn : ab_N mi d K nx (pc + 3)) (h : nx ls (.inl n :: st) M) : ab_At mi d pc ls st M K := by
  intro p l e s m args below meth c G H locs lr hC hW hL hO
  exact lv_sipush hC.1 hC.2.1 hd hv (hn _ _ _ h p l e s m args below meth c G H locs lr hC hW hL (ab_ok_cons hO hr))
theorem abo_lconst {n : Fin 2} (hd : decode mi.2.1 pc = .ok (.lconst n, 1)) (hn : ab_N mi d K nx (pc + 1)) (h : nx ls (vl (lN n.val) :: st) M) : ab_At mi d pc ls st M K := by
  intro p l e s m args below meth c G H locs lr hC hW hL hO
  exact lv_lconst hC.1 hC.2.1 hd rfl (hn _ _ _ h p l e s m args below meth c G H locs lr hC hW hL (ab_ok_cons hO trivial))
theorem abo_ldc {ix : Nat} {z : Int32} (hd : decode mi.2.1 pc = .ok (.ldc ix, 2)) (hw : Cond.constant mi.1.cls ix z ∈ ab_tb) (hn : ab_N mi d K nx (pc + 2)) (h : nx ls (vi z :: st) M) : ab_At mi d pc ls st M K := by
  intro p l e s m args below meth c G H locs lr hC hW hL hO
  exact lv_ldc hC.1 hC.2.1 hC.2.2.2.2.1 (hC.2.2.2.2.2.1 _ hw) hd (hn _ _ _ h p l e s m args below meth c G H locs lr hC hW hL (ab_ok_cons hO trivial))
theorem abo_ldcw {ix : Nat} {z : Int32} (hd : decode mi.2.1 pc = .ok (.ldc_w ix, 3)) (hw : Cond.constant mi.1.cls ix z ∈ ab_tb) (hn : ab_N mi d K nx (pc + 3)) (h : nx ls (vi z :: st) M) : ab_At mi d pc ls st M K := by
  intro p l e s m args below meth c G H locs lr hC hW hL hO
  exact lv_ldcw hC.1 hC.2.1 hC.2.2.2.2.1 (hC.2.2.2.2.2.1 _ hw) hd (hn _ _ _ h p l e s m args below meth c G H locs lr hC hW hL (ab_ok_cons hO trivial))
theorem abo_ldc2 {ix : Nat} {z : Int64} (hd : decode mi.2.1 pc = .ok (.ldc2_w ix, 3)) (hw : Cond.constantLong mi.1.cls ix z ∈ ab_tb) (hn : ab_N mi d K nx (pc + 3)) (h : nx ls (vl z :: st) M) : ab_At mi d pc ls st M K := by
  intro p l e s m args below meth c G H locs lr hC hW hL hO
  exact lv_ldc2 hC.1 hC.2.1 hC.2.2.2.2.1 (hC.2.2.2.2.2.1 _ hw) hd (hn _ _ _ h p l e s m args below meth c G H locs lr hC hW hL (ab_ok_cons hO trivial))
/-- loads -/
theorem abo_iload {k len : Nat} (hd : (decode mi.2.1 pc = .ok (.iload k, 2) ∧ len = 2) ∨ ∃ k' : Fin 4, k'.val = k ∧ decode mi.2.1 pc = .ok (.iload_n k', 1) ∧ len = 1) (hn : ab_N mi d K nx (pc + len)) (h : ab_ild k nx ls st M) : ab_At mi d pc ls st M K := by
  intro p l e s m args below meth c G H locs lr hC hW hL hO
  unfold ab_ild at h
  have key : ∀ v : ab_V, ab_gl ls k = some v → (∃ x, ab_rv G v = .int x) → nx ls (v :: st) M → W p l e (ab_R d) s m args below meth c H locs 0 0 (MQ below (ab_Q G K) args s 0 0 (ab_A G)) (F0 m pc lr (st.map (ab_rv G))) := by
    intro v hv ⟨x, hx⟩ h
    have hl := hL.2.2 k v hv
    rw [hx] at hl
    have hgo := hn _ _ _ h p l e s m args below meth c G H locs lr hC hW hL (ab_ok_cons hO (hO.1 k v hv))
    rw [List.map_cons, hx] at hgo
    rcases hd with ⟨hd, rfl⟩ | ⟨k', hk, hd, rfl⟩
    · exact lv_iload hC.1 hC.2.1 hd hl hgo
    · exact lv_iload_n hC.1 hC.2.1 hd hk hl hgo
  split at h
  · rename_i n hv
    exact key _ hv ⟨_, rfl⟩ h
  · rename_i x hv
    exact key _ hv ⟨_, rfl⟩ h
  · exact h.elim
theorem abo_lload {k len : Nat} (hd : (decode mi.2.1 pc = .ok (.lload k, 2) ∧ len = 2) ∨ ∃ k' : Fin 4, k'.val = k ∧ decode mi.2.1 pc = .ok (.lload_n k', 1) ∧ len = 1) (hn : ab_N mi d K nx (pc + len)) (h : ab_lld k nx ls st M) : ab_At mi d pc ls st M K := by
  intro p l e s m args below meth c G H locs lr hC hW hL hO
  unfold ab_lld at h
  split at h
  · rename_i x hv
    have hl := hL.2.2 k _ hv
    have hgo := hn _ _ _ h p l e s m args below meth c G H locs lr hC hW hL (ab_ok_cons hO (hO.1 k _ hv))
    rcases hd with ⟨hd, rfl⟩ | ⟨k', hk, hd, rfl⟩
    · exact lv_lload hC.1 hC.2.1 hd hl hgo
    · exact lv_lload_n hC.1 hC.2.1 hd hk hl hgo
  · exact h.elim
theorem abo_aload {k len : Nat} (hd : (decode mi.2.1 pc = .ok (.aload k, 2) ∧ len = 2) ∨ ∃ k' : Fin 4, k'.val = k ∧ decode mi.2.1 pc = .ok (.aload_n k', 1) ∧ len = 1) (hn : ab_N mi d K nx (pc + len)) (h : ab_ald k nx ls st M) : ab_At mi d pc ls st M K := by
  intro p l e s m args below meth c G H locs lr hC hW hL hO
  unfold ab_ald at h
  split at h
  · rename_i x hv
    have hl := hL.2.2 k _ hv
    have hgo := hn _ _ _ h p l e s m args below meth c G H locs lr hC hW hL (ab_ok_cons hO (hO.1 k _ hv))
    rcases hd with ⟨hd, rfl⟩ | ⟨k', hk, hd, rfl⟩
    · exact lv_aload hC.1 hC.2.1 hd hl hgo
    · exact lv_aload_n hC.1 hC.2.1 hd hk hl hgo
  · exact h.elim
/-- locals as a list of pairs, for the kit's rows -/
def ab_prs (G : ab_G) : Nat → ab_L → List (Nat × Value)
  | _, [] => []
  | k, none :: ls => ab_prs G (k + 1) ls
  | k, some v :: ls => (k, ab_rv G v) :: ab_prs G (k + 1) ls
theorem ab_prs_mem {G : ab_G} : ∀ (ls : ab_L) (k : Nat) (q : Nat × Value), q ∈ ab_prs G k ls ↔ ∃ j v, ab_gl ls j = some v ∧ q = (k + j, ab_rv G v)
  | [], k, q => by simp [ab_prs, ab_gl]
  | none :: ls, k, q => by
    rw [ab_prs, ab_prs_mem ls (k + 1) q]
    constructor
    · rintro ⟨j, v, h1, h2⟩
      exact ⟨j + 1, v, h1, by rw [h2, Nat.add_assoc, Nat.add_comm 1 j]⟩
    · rintro ⟨j, v, h1, h2⟩
      cases j with
      | zero => cases h1
      | succ j => exact ⟨j, v, h1, by rw [h2, Nat.add_assoc, Nat.add_comm 1 j]⟩
  | some w :: ls, k, q => by
    rw [ab_prs, List.mem_cons, ab_prs_mem ls (k + 1) q]
    constructor
    · rintro (h | ⟨j, v, h1, h2⟩)
      · exact ⟨0, w, rfl, by rw [h, Nat.add_zero]⟩
      · exact ⟨j + 1, v, h1, by rw [h2, Nat.add_assoc, Nat.add_comm 1 j]⟩
    · rintro ⟨j, v, h1, h2⟩
      cases j with
      | zero => cases h1; exact Or.inl (by rw [h2, Nat.add_zero])
      | succ j => exact Or.inr ⟨j, v, h1, by rw [h2, Nat.add_assoc, Nat.add_comm 1 j]⟩
theorem ab_lr_has {G : ab_G} {lr : Array Slot} {nL : Nat} {ls : ab_L} (h : ab_lr G lr nL ls) : lv_has lr nL (ab_prs G 0 ls) := by
  refine ⟨h.1, h.2.1, fun q hq => ?_⟩
  obtain ⟨j, v, h1, h2⟩ := (ab_prs_mem ls 0 q).mp hq
  rw [h2, Nat.zero_add]
  exact h.2.2 j v h1
theorem ab_gl_sl : ∀ (ls : ab_L) (k : Nat) (v : Option ab_V) (j : Nat), ab_gl (ab_sl ls k v) j = if j = k then v else ab_gl ls j
  | [], 0, v, 0 => by simp [ab_sl, ab_gl]
  | [], 0, v, j + 1 => by simp [ab_sl, ab_gl]
  | [], k + 1, v, 0 => by simp [ab_sl, ab_gl]
  | [], k + 1, v, j + 1 => by
    show ab_gl (ab_sl [] k v) j = _
    rw [ab_gl_sl [] k v j]
    simp [ab_gl]
  | x :: xs, 0, v, 0 => by simp [ab_sl, ab_gl]
  | x :: xs, 0, v, j + 1 => by simp [ab_sl, ab_gl]
  | x :: xs, k + 1, v, 0 => by simp [ab_sl, ab_gl]
  | x :: xs, k + 1, v, j + 1 => by
    show ab_gl (ab_sl xs k v) j = _
    rw [ab_gl_sl xs k v j]
    simp [ab_gl]
theorem ab_gl_kp {ls : ab_L} {k j : Nat} {v : ab_V} (h : ab_gl (ab_kp ls k) j = some v) : ab_gl ls j = some v ∧ ¬ (j + 1 = k ∧ ∃ x, v = vl x) := by
  unfold ab_kp at h
  split at h
  · exact ⟨h, fun q => by omega⟩
  · rename_i k
    split at h
    · rename_i x hx
      rw [ab_gl_sl] at h
      by_cases hj : j = k
      · rw [if_pos hj] at h; cases h
      · rw [if_neg hj] at h
        exact ⟨h, fun q => hj (by omega)⟩
    · rename_i hno
      refine ⟨h, fun q => ?_⟩
      obtain ⟨q1, x, q2⟩ := q
      have : j = k := by omega
      subst this
      exact hno x (by rw [h, q2])
theorem ab_rv_cat {G : ab_G} {v : ab_V} (h : (ab_rv G v).category = 2) : ∃ x, v = vl x := by
  match v, h with
  | .inl n, h => exact absurd h (by simp [ab_rv, Value.category])
  | .inr (.inl x), h => exact absurd h (by simp [ab_rv, Value.category])
  | .inr (.inr (.inl x)), h => exact ⟨x, rfl⟩
  | .inr (.inr (.inr q)), h => exact absurd h (by simp [ab_rv, Value.category])
theorem ab_lr_s1 {G : ab_G} {lr : Array Slot} {nL : Nat} {ls : ab_L} {k : Nat} {v : ab_V} (h : lv_has lr nL ((k, ab_rv G v) :: (ab_prs G 0 ls).filter (fun q => !(q.1 == k) && !(q.1 + 1 == k && q.2.category == 2)))) : ab_lr G lr nL (ab_s1 ls k v) := by
  refine ⟨h.1, h.2.1, fun j w hw => ?_⟩
  unfold ab_s1 at hw
  rw [ab_gl_sl] at hw
  by_cases hj : j = k
  · rw [if_pos hj] at hw
    cases hw
    subst hj
    exact h.2.2 _ List.mem_cons_self
  · rw [if_neg hj] at hw
    obtain ⟨h1, h2⟩ := ab_gl_kp hw
    refine h.2.2 (j, ab_rv G w) (List.mem_cons_of_mem _ (List.mem_filter.mpr ⟨(ab_prs_mem ls 0 _).mpr ⟨j, w, h1, by rw [Nat.zero_add]⟩, ?_⟩))
    have h3 : ¬ (j + 1 = k ∧ (ab_rv G w).category = 2) := fun q => h2 ⟨q.1, ab_rv_cat q.2⟩
    by_cases q1 : j + 1 = k
    · have q2 : ¬ (ab_rv G w).category = 2 := fun q => h3 ⟨q1, q⟩
      simp [hj, q2]
    · simp [hj, q1]
theorem ab_ok_s1 {ls : ab_L} {v : ab_V} {st : List ab_V} {k : Nat} (h : ab_ok ls (v :: st)) : ab_ok (ab_s1 ls k v) st := by
  refine ⟨fun j w hw => ?_, fun w hw => h.2 w (List.mem_cons_of_mem _ hw)⟩
  unfold ab_s1 at hw
  rw [ab_gl_sl] at hw
  by_cases hj : j = k
  · rw [if_pos hj] at hw
    cases hw
    exact h.2 _ List.mem_cons_self
  · rw [if_neg hj] at hw
    exact h.1 j w (ab_gl_kp hw).1
theorem ab_lr_s2 {G : ab_G} {lr : Array Slot} {nL : Nat} {ls : ab_L} {k : Nat} {v : ab_V} (h : lv_has lr nL ((k, ab_rv G v) :: (ab_prs G 0 ls).filter (fun q => !(q.1 == k) && (!(q.1 == k + 1) && !(q.1 + 1 == k && q.2.category == 2))))) : ab_lr G lr nL (ab_s2 ls k v) := by
  refine ⟨h.1, h.2.1, fun j w hw => ?_⟩
  unfold ab_s2 at hw
  rw [ab_gl_sl] at hw
  by_cases hj1 : j = k + 1
  · rw [if_pos hj1] at hw; cases hw
  rw [if_neg hj1, ab_gl_sl] at hw
  by_cases hj : j = k
  · rw [if_pos hj] at hw
    cases hw
    subst hj
    exact h.2.2 _ List.mem_cons_self
  · rw [if_neg hj] at hw
    obtain ⟨h1, h2⟩ := ab_gl_kp hw
    refine h.2.2 (j, ab_rv G w) (List.mem_cons_of_mem _ (List.mem_filter.mpr ⟨(ab_prs_mem ls 0 _).mpr ⟨j, w, h1, by rw [Nat.zero_add]⟩, ?_⟩))
    have h3 : ¬ (j + 1 = k ∧ (ab_rv G w).category = 2) := fun q => h2 ⟨q.1, ab_rv_cat q.2⟩
    by_cases q1 : j + 1 = k
    · have q2 : ¬ (ab_rv G w).category = 2 := fun q => h3 ⟨q1, q⟩
      simp [hj, hj1, q2]
    · simp [hj, hj1, q1]
theorem ab_ok_s2 {ls : ab_L} {v : ab_V} {st : List ab_V} {k : Nat} (h : ab_ok ls (v :: st)) : ab_ok (ab_s2 ls k v) st := by
  refine ⟨fun j w hw => ?_, fun w hw => h.2 w (List.mem_cons_of_mem _ hw)⟩
  unfold ab_s2 at hw
  rw [ab_gl_sl] at hw
  by_cases hj1 : j = k + 1
  · rw [if_pos hj1] at hw; cases hw
  rw [if_neg hj1, ab_gl_sl] at hw
  by_cases hj : j = k
  · rw [if_pos hj] at hw
    cases hw
    exact h.2 _ List.mem_cons_self
  · rw [if_neg hj] at hw
    exact h.1 j w (ab_gl_kp hw).1
theorem abo_istore {k len : Nat} (hd : (decode mi.2.1 pc = .ok (.istore k, 2) ∧ len = 2) ∨ ∃ k' : Fin 4, k'.val = k ∧ decode mi.2.1 pc = .ok (.istore_n k', 1) ∧ len = 1) (hk : k < mi.2.2.1) (hn : ab_N mi d K nx (pc + len)) (h : ab_ist k nx ls st M) : ab_At mi d pc ls st M K := by
  intro p l e s m args below meth c G H locs lr hC hW hL hO
  unfold ab_ist at h
  have key : ∀ (v : ab_V) (st : List ab_V), ab_ok ls (v :: st) → (∃ x, ab_rv G v = .int x) → nx (ab_s1 ls k v) st M → W p l e (ab_R d) s m args below meth c H locs 0 0 (MQ below (ab_Q G K) args s 0 0 (ab_A G)) (F0 m pc lr ((v :: st).map (ab_rv G))) := by
    intro v st hO ⟨x, hx⟩ h
    rw [List.map_cons, hx]
    have go : ∀ lr' : Array Slot, lv_has lr' mi.2.2.1 ((k, Value.int x) :: (ab_prs G 0 ls).filter (fun q => !(q.1 == k) && !(q.1 + 1 == k && q.2.category == 2))) → W p l e (ab_R d) s m args below meth c H locs 0 0 (MQ below (ab_Q G K) args s 0 0 (ab_A G)) (F0 m (pc + len) lr' (st.map (ab_rv G))) := by
      intro lr' hl'
      rw [← hx] at hl'
      exact hn _ _ _ h p l e s m args below meth c G H locs lr' hC hW (ab_lr_s1 hl') (ab_ok_s1 hO)
    rcases hd with ⟨hd, rfl⟩ | ⟨k', hk', hd, rfl⟩
    · exact lv_istore hC.1 hC.2.1 hd (ab_lr_has hL) hk rfl go
    · exact lv_istore_n hC.1 hC.2.1 hd hk' (ab_lr_has hL) hk rfl go
  split at h
  · exact key _ _ hO ⟨_, rfl⟩ h
  · exact key _ _ hO ⟨_, rfl⟩ h
  · exact h.elim
theorem abo_lstore {k len : Nat} (hd : (decode mi.2.1 pc = .ok (.lstore k, 2) ∧ len = 2) ∨ ∃ k' : Fin 4, k'.val = k ∧ decode mi.2.1 pc = .ok (.lstore_n k', 1) ∧ len = 1) (hk : k + 1 < mi.2.2.1) (hn : ab_N mi d K nx (pc + len)) (h : ab_lst k nx ls st M) : ab_At mi d pc ls st M K := by
  intro p l e s m args below meth c G H locs lr hC hW hL hO
  unfold ab_lst at h
  split at h
  · rename_i st x st'
    have go : ∀ lr' : Array Slot, lv_has lr' mi.2.2.1 ((k, ab_rv G (vl x)) :: (ab_prs G 0 ls).filter (fun q => !(q.1 == k) && (!(q.1 == k + 1) && !(q.1 + 1 == k && q.2.category == 2)))) → W p l e (ab_R d) s m args below meth c H locs 0 0 (MQ below (ab_Q G K) args s 0 0 (ab_A G)) (F0 m (pc + len) lr' (st'.map (ab_rv G))) := by
      intro lr' hl'
      exact hn _ _ _ h p l e s m args below meth c G H locs lr' hC hW (ab_lr_s2 hl') (ab_ok_s2 hO)
    rcases hd with ⟨hd, rfl⟩ | ⟨k', hk', hd, rfl⟩
    · exact lv_lstore hC.1 hC.2.1 hd (ab_lr_has hL) hk rfl go
    · exact lv_lstore_n hC.1 hC.2.1 hd hk' (ab_lr_has hL) hk rfl go
  · exact h.elim
theorem abo_astore {k len : Nat} (hd : (decode mi.2.1 pc = .ok (.astore k, 2) ∧ len = 2) ∨ ∃ k' : Fin 4, k'.val = k ∧ decode mi.2.1 pc = .ok (.astore_n k', 1) ∧ len = 1) (hk : k < mi.2.2.1) (hn : ab_N mi d K nx (pc + len)) (h : ab_ast k nx ls st M) : ab_At mi d pc ls st M K := by
  intro p l e s m args below meth c G H locs lr hC hW hL hO
  unfold ab_ast at h
  split at h
  · rename_i st q st'
    have go : ∀ lr' : Array Slot, lv_has lr' mi.2.2.1 ((k, ab_rv G (.inr (.inr (.inr q)))) :: (ab_prs G 0 ls).filter (fun q => !(q.1 == k) && !(q.1 + 1 == k && q.2.category == 2))) → W p l e (ab_R d) s m args below meth c H locs 0 0 (MQ below (ab_Q G K) args s 0 0 (ab_A G)) (F0 m (pc + len) lr' (st'.map (ab_rv G))) := by
      intro lr' hl'
      exact hn _ _ _ h p l e s m args below meth c G H locs lr' hC hW (ab_lr_s1 hl') (ab_ok_s1 hO)
    rcases hd with ⟨hd, rfl⟩ | ⟨k', hk', hd, rfl⟩
    · exact lv_astore hC.1 hC.2.1 hd (ab_lr_has hL) hk rfl go
    · exact lv_astore_n hC.1 hC.2.1 hd hk' (ab_lr_has hL) hk rfl go
  · exact h.elim
theorem abo_iinc {k : Nat} {n : Int} (hd : decode mi.2.1 pc = .ok (.iinc k n, 3)) (hv : Int32.ofInt n = ab_cv n) (hk : k < mi.2.2.1) (hn : ab_N mi d K nx (pc + 3)) {v : ab_V} {x : Int32} (hg : ab_gl ls k = some v) (hx : ab_nv v = some x) (h : nx (ab_s1 ls k (vi (x + ab_cv n))) st M) : ab_At mi d pc ls st M K := by
  intro p l e s m args below meth c G H locs lr hC hW hL hO
  have hm : (k, Value.int x) ∈ ab_prs G 0 ls := (ab_prs_mem ls 0 _).mpr ⟨k, v, hg, by rw [Nat.zero_add, ab_nv_use hx]⟩
  obtain ⟨i, hi⟩ := List.getElem?_of_mem hm
  refine lv_iinc (v := x + ab_cv n) hC.1 hC.2.1 hd (ab_lr_has hL) hi (by rw [hv]) hk rfl fun lr' hl' => ?_
  exact hn _ _ _ h p l e s m args below meth c G H locs lr' hC hW (ab_lr_s1 (v := vi (x + ab_cv n)) hl') (ab_ok_s1 (ab_ok_cons hO trivial))
end ABO
