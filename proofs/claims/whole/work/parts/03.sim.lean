/-! ===== the abstract machine is the machine: tables ===== -/
theorem ab_pl_ok : ∀ g, g < 70 → ∀ i, i < ab_cnt g → ab_pl g i < 120 ∧ ab_pg (ab_pl g i) = g ∧ ab_pi (ab_pl g i) = i := by decide +kernel
theorem ab_pl_inv : ∀ n, n < 120 → ab_pl (ab_pg n) (ab_pi n) = n := by decide +kernel
theorem ab_gi_out {g : Nat} (h : 72 ≤ g) : ab_gi g = (9, 0, 0, 0, 0, 0) := by
  have hl : ab_gT.length = 72 := by decide +kernel
  show ab_gT.getD g _ = _
  rw [List.getD_eq_getElem?_getD, List.getElem?_eq_none (by omega)]
  rfl
theorem ab_g70a : ∀ g, g < 72 → (ab_gi g).1 ≤ 6 → g < 70 := by decide +kernel
theorem ab_g70 {g : Nat} (h : (ab_gi g).1 ≤ 6) : g < 70 := by
  by_cases hg : g < 72
  · exact ab_g70a g hg h
  · rw [ab_gi_out (by omega)] at h
    exact absurd h (by decide)
theorem ab_g7a : ∀ g, g < 72 → (ab_gi g).1 = 7 → g = 71 := by decide +kernel
theorem ab_g8a : ∀ g, g < 72 → (ab_gi g).1 = 8 → g = 70 := by decide +kernel
theorem ab_g7 {g : Nat} (h : (ab_gi g).1 = 7) : g = 71 := by
  by_cases hg : g < 72
  · exact ab_g7a g hg h
  · rw [ab_gi_out (by omega)] at h
    exact absurd h (by decide)
theorem ab_g8 {g : Nat} (h : (ab_gi g).1 = 8) : g = 70 := by
  by_cases hg : g < 72
  · exact ab_g8a g hg h
  · rw [ab_gi_out (by omega)] at h
    exact absurd h (by decide)
theorem ab_gna : ∀ g, g < 72 → (ab_gi g).2.2.1 < 1000 := by decide +kernel
theorem ab_gn (g : Nat) : (ab_gi g).2.2.1 < 1000 := by
  by_cases hg : g < 72
  · exact ab_gna g hg
  · rw [ab_gi_out (by omega)]
    decide
theorem ab_ws_at (G : ab_G) (M : ab_M) {g i : Nat} (hg : g < 70) (hi : i < ab_cnt g) : (ab_ws G M)[ab_pl g i]? = some (G.2.2.1 (ab_pl g i), ab_cel G M g i) := by
  obtain ⟨h1, h2, h3⟩ := ab_pl_ok g hg i hi
  unfold ab_ws
  rw [List.getElem?_map, List.getElem?_range h1]
  simp only [Option.map_some, h2, h3]
theorem ab_cel_congr {G : ab_G} {M M' : ab_M} {g i : Nat} (h1 : M.1 g i = M'.1 g i) (h2 : M.2.1 g i = M'.2.1 g i) (h3 : M.2.2 g i = M'.2.2 g i) : ab_cel G M g i = ab_cel G M' g i := by
  have hf : ab_fs G M g i = ab_fs G M' g i := by
    unfold ab_fs
    refine List.map_congr_left fun k _ => ?_
    unfold ab_fv
    rw [h1, h2, h3]
  unfold ab_cel
  rw [h1, h2, hf]
theorem ab_ws_set {G : ab_G} {M M' : ab_M} {g i : Nat} (hg : g < 70) (hi : i < ab_cnt g) (hs : ∀ a b, ¬ (a = g ∧ b = i) → M'.1 a b = M.1 a b ∧ M'.2.1 a b = M.2.1 a b ∧ M'.2.2 a b = M.2.2 a b) :
    (ab_ws G M).set (ab_pl g i) (G.2.2.1 (ab_pl g i), ab_cel G M' g i) = ab_ws G M' := by
  obtain ⟨h1, h2, h3⟩ := ab_pl_ok g hg i hi
  refine List.ext_getElem? fun n => ?_
  by_cases hn : n = ab_pl g i
  · subst hn
    rw [ab_ws_at G M' hg hi, List.getElem?_set_self (by unfold ab_ws; simpa using h1)]
  · rw [List.getElem?_set_ne (Ne.symm hn)]
    unfold ab_ws
    rw [List.getElem?_map, List.getElem?_map]
    by_cases h120 : n < 120
    · rw [List.getElem?_range h120]
      have hne : ¬ (ab_pg n = g ∧ ab_pi n = i) := fun q => hn (by rw [← ab_pl_inv n h120, q.1, q.2])
      obtain ⟨q1, q2, q3⟩ := hs _ _ hne
      simp only [Option.map_some]
      rw [ab_cel_congr q1.symm q2.symm q3.symm]
    · rw [List.getElem?_eq_none (by rw [List.length_range]; omega)]
      rfl
theorem ab_T_move {G : ab_G} {M M' : ab_M} {s : State} {H H1 : Heap} {locs locs1 : List Loc} (h : ab_T G M s H) (hS : va_S (ab_A G) s.heap H locs) (hS1 : va_S (ab_A G) s.heap H1 locs1) (l0 : G.2.2.1 120 < s.heap.size) (l1 : G.2.2.1 121 < s.heap.size)
    (e0 : M'.1 70 0 = M.1 70 0) (e1 : M'.1 71 0 = M.1 71 0) (e2 : M'.2.2 71 0 0 = M.2.2 71 0 0) : ab_T G M' s H1 := by
  obtain ⟨⟨c0, a1, a2, a3, a4, a5, a6, a7⟩, ⟨c1, b1, b2, b3, b4, b5, b6, b7⟩⟩ := h
  refine ⟨⟨c0, ?_, a2, a3, a4, a5, ?_, a7⟩, ⟨c1, ?_, b2, b3, ?_, ?_, ?_, b7⟩⟩
  · rw [hS1.2.1 _ l0 a7, ← hS.2.1 _ l0 a7]; exact a1
  · rw [e0]; exact a6
  · rw [hS1.2.1 _ l1 b7, ← hS.2.1 _ l1 b7]; exact b1
  · rw [e2]; exact b4
  · rw [e2]; exact b5
  · rw [e2, e1]; exact b6
theorem ab_T_vm {G : ab_G} {M : ab_M} {u U : State} {H : Heap} (hvm : u.vm.Alike U.vm) (h : ab_T G M u H) : ab_T G M U H := ⟨h.1.moved hvm, h.2.moved hvm⟩
theorem ab_T_kept {G : ab_G} {M : ab_M} {U : State} {H H1 : Heap} (h : ab_T G M U H) (hq : ∀ a : Nat, a < H.size → ¬ ab_A G a → H1[a]? = H[a]?) : ab_T G M U H1 := ⟨h.1.kept hq, h.2.kept hq⟩
theorem ab_W0_set {G : ab_G} {M M' : ab_M} {s : State} {H H1 : Heap} {locs locs1 : List Loc} {g i : Nat} (h : ab_W0 G M s H locs) (hg : g < 70) (hi : i < ab_cnt g) (hs : ∀ a b, ¬ (a = g ∧ b = i) → M'.1 a b = M.1 a b ∧ M'.2.1 a b = M.2.1 a b ∧ M'.2.2 a b = M.2.2 a b) (hX : ab_X M')
    (hP : va_P (ab_D G) vwCl ((ab_ws G M).set (ab_pl g i) (G.2.2.1 (ab_pl g i), ab_cel G M' g i)) H1) (hD : va_D (ab_A G) ((ab_ws G M).set (ab_pl g i) (G.2.2.1 (ab_pl g i), ab_cel G M' g i))) (hS : va_S (ab_A G) s.heap H1 locs1) : ab_W0 G M' s H1 locs1 := by
  rw [ab_ws_set hg hi hs] at hP hD
  obtain ⟨h1, h2, h3, h4, h5, h6, h7, h8, h9⟩ := h
  have e0 := hs 70 0 (by omega)
  have e1 := hs 71 0 (by omega)
  exact ⟨hP, h2, hD, hS, ab_T_move h5 h4 hS h8 h9 e0.1 e1.1 (by rw [e1.2.2]), h6, hX, h8, h9⟩
theorem ab_ix_use {G : ab_G} {v : ab_V} {n : Nat} {f : Nat → Prop} (h : ab_ix v n f) : ∃ j, ab_rv G v = .int (nI j) ∧ j < n ∧ f j := by
  unfold ab_ix at h
  split at h
  · rename_i j
    split at h
    · rename_i hb
      exact ⟨j, rfl, Nat.le_of_ble_eq_true hb, h⟩
    · exact h.elim
  · exact h.elim
  · obtain ⟨j, h1, h2, h3⟩ := h
    exact ⟨j, by rw [h1]; rfl, h2, h3⟩
  · exact h.elim
theorem ab_nv_use {G : ab_G} {v : ab_V} {x : Int32} (h : ab_nv v = some x) : ab_rv G v = .int x := by
  unfold ab_nv at h
  split at h
  · cases h; rfl
  · cases h; rfl
  · cases h; rfl
  · cases h
theorem ab_nv_inl (n : Int) : ab_nv (.inl n) = some (ab_cv n) := by
  cases n <;> rfl
theorem ab_at_mem {α : Type} {l : List α} {n : Nat} {x : α} (h : l[n]? = some x) : x ∈ l := List.mem_of_getElem? h
