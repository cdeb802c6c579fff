/-! ===== stores, fields ===== -/
section ABS
variable {mi : ab_I} {d pc : Nat} {K : ab_K} {nx tg : ab_P} {ls : ab_L} {st : List ab_V} {M : ab_M}
theorem ab_sI_other {M : ab_M} {g i k : Nat} {x : Int32} : ∀ a b, ¬ (a = g ∧ b = i) → (ab_sI M g i k x).1 a b = M.1 a b ∧ (ab_sI M g i k x).2.1 a b = M.2.1 a b ∧ (ab_sI M g i k x).2.2 a b = M.2.2 a b := by
  intro a b h
  refine ⟨?_, rfl, rfl⟩
  funext c
  show (if a = g ∧ b = i ∧ c = k then x else M.1 a b c) = _
  rw [if_neg (fun q => h ⟨q.1, q.2.1⟩)]
theorem ab_sI_row {M : ab_M} {g i k : Nat} {x : Int32} : (ab_sI M g i k x).1 g i = upd (M.1 g i) k x := by
  funext c
  show (if g = g ∧ i = i ∧ c = k then x else M.1 g i c) = _
  by_cases h : c = k
  · subst h
    simp [upd]
  · simp [upd, h]
theorem ab_sJ_other {M : ab_M} {g i k : Nat} {x : Int64} : ∀ a b, ¬ (a = g ∧ b = i) → (ab_sJ M g i k x).1 a b = M.1 a b ∧ (ab_sJ M g i k x).2.1 a b = M.2.1 a b ∧ (ab_sJ M g i k x).2.2 a b = M.2.2 a b := by
  intro a b h
  refine ⟨rfl, ?_, rfl⟩
  funext c
  show (if a = g ∧ b = i ∧ c = k then x else M.2.1 a b c) = _
  rw [if_neg (fun q => h ⟨q.1, q.2.1⟩)]
theorem ab_sX_other {M : ab_M} {g i k : Nat} {x : Nat} : ∀ a b, ¬ (a = g ∧ b = i) → (ab_sX M g i k x).1 a b = M.1 a b ∧ (ab_sX M g i k x).2.1 a b = M.2.1 a b ∧ (ab_sX M g i k x).2.2 a b = M.2.2 a b := by
  intro a b h
  refine ⟨rfl, rfl, ?_⟩
  funext c
  show (if a = g ∧ b = i ∧ c = k then x else M.2.2 a b c) = _
  rw [if_neg (fun q => h ⟨q.1, q.2.1⟩)]
theorem abo_iast (hd : decode mi.2.1 pc = .ok (.iastore, 1)) (hn : ab_N mi d K nx (pc + 1)) (h : ab_iast nx ls st M) : ab_At mi d pc ls st M K := by
  unfold ab_iast at h
  split at h
  · rename_i w v g i rest
    split at h
    · rename_i x hx
      intro p l e s m args below meth c G H locs lr hC hW hL hO
      have hO' := ab_ok_tail (ab_ok_tail (ab_ok_tail hO))
      have hi : i < ab_cnt g := ab_ok_head (ab_ok_tail (ab_ok_tail hO))
      have hlen := ab_gn g
      split at h
      · rename_i a1 n a2 a3 a4 hg
        have hlen : n < 1000 := by rw [hg] at hlen; exact hlen
        obtain ⟨j, hj, hjn, h⟩ := ab_ix_use (G := G) h
        have hg70 : g < 70 := ab_g70 (by rw [hg]; exact Nat.le_of_ble_eq_true rfl)
        rw [List.map_cons, List.map_cons, List.map_cons, hj, ab_nv_use hx]
        have hws := ab_ws_at G M hg70 hi
        have hc : ∀ M, ab_cel G M g i = .inl (G.2.2.2 0, n, .inl (M.1 g i)) := fun M => by unfold ab_cel; rw [hg]; first | done | rfl
        rw [hc] at hws
        refine va_iast hC.1 hC.2.1 hW.2.1 hW.1 hW.2.2.1 hW.2.2.2.1 _ 0 hws rfl (vp_in_nI hjn (by omega)) hd fun H1 locs1 hP hD hS => ?_
        rw [nI_clamp (by omega), ← ab_sI_row (M := M), ← hc (ab_sI M g i j x)] at hP hD
        exact hn _ _ _ h p l e s m args below meth c G H1 locs1 lr hC (ab_W0_set hW hg70 hi ab_sI_other hW.2.2.2.2.2.2.1 hP hD hS) hL hO'
      · rename_i a1 n a2 a3 a4 hg
        obtain ⟨j, hj, hjn, h⟩ := ab_ix_use (G := G) h
        have hg70 : g < 70 := ab_g70 (by rw [hg]; exact Nat.le_of_ble_eq_true rfl)
        rw [List.map_cons, List.map_cons, List.map_cons, hj, ab_nv_use hx]
        have hws := ab_ws_at G M hg70 hi
        have hc : ∀ M, ab_cel G M g i = .inl (G.2.2.2 0, (if i = 4 then 0 else 80), .inl (M.1 g i)) := fun M => by unfold ab_cel; rw [hg]; first | done | rfl
        rw [hc] at hws
        have hj80 : j < 80 := by split at hjn <;> omega
        refine va_iast hC.1 hC.2.1 hW.2.1 hW.1 hW.2.2.1 hW.2.2.2.1 _ 0 hws rfl (vp_in_nI hjn (by split <;> omega)) hd fun H1 locs1 hP hD hS => ?_
        rw [nI_clamp (by omega), ← ab_sI_row (M := M), ← hc (ab_sI M g i j x)] at hP hD
        exact hn _ _ _ h p l e s m args below meth c G H1 locs1 lr hC (ab_W0_set hW hg70 hi ab_sI_other hW.2.2.2.2.2.2.1 hP hD hS) hL hO'
      · exact h.elim
    · exact h.elim
  · exact h.elim
theorem abo_zast (hd : decode mi.2.1 pc = .ok (.bastore, 1)) (hn : ab_N mi d K nx (pc + 1)) (h : ab_zast nx ls st M) : ab_At mi d pc ls st M K := by
  unfold ab_zast at h
  split at h
  · rename_i w v g i rest
    split at h
    · rename_i x hx
      intro p l e s m args below meth c G H locs lr hC hW hL hO
      have hO' := ab_ok_tail (ab_ok_tail (ab_ok_tail hO))
      have hi : i < ab_cnt g := ab_ok_head (ab_ok_tail (ab_ok_tail hO))
      have hlen := ab_gn g
      split at h
      · rename_i a1 n a2 a3 a4 hg
        have hlen : n < 1000 := by rw [hg] at hlen; exact hlen
        obtain ⟨j, hj, hjn, h⟩ := ab_ix_use (G := G) h
        have hg70 : g < 70 := ab_g70 (by rw [hg]; exact Nat.le_of_ble_eq_true rfl)
        rw [List.map_cons, List.map_cons, List.map_cons, hj, ab_nv_use hx]
        have hws := ab_ws_at G M hg70 hi
        have hc : ∀ M, ab_cel G M g i = .inl (G.2.2.2 1, n, .inl (M.1 g i)) := fun M => by unfold ab_cel; rw [hg]; first | done | rfl
        rw [hc] at hws
        refine va_zast hC.1 hC.2.1 hW.2.1 hW.1 hW.2.2.1 hW.2.2.2.1 _ 1 hws rfl (vp_in_nI hjn (by omega)) hd fun H1 locs1 hP hD hS => ?_
        rw [nI_clamp (by omega), ← ab_sI_row (M := M), ← hc (ab_sI M g i j _)] at hP hD
        exact hn _ _ _ h p l e s m args below meth c G H1 locs1 lr hC (ab_W0_set hW hg70 hi ab_sI_other hW.2.2.2.2.2.2.1 hP hD hS) hL hO'
      · exact h.elim
    · exact h.elim
  · exact h.elim
theorem ab_sJ_row {M : ab_M} {g i k : Nat} {x : Int64} : (ab_sJ M g i k x).2.1 g i = vp_updL (M.2.1 g i) k x := by
  funext c
  show (if g = g ∧ i = i ∧ c = k then x else M.2.1 g i c) = _
  by_cases h : c = k
  · subst h
    simp [vp_updL]
  · simp [vp_updL, h]
theorem abo_last (hd : decode mi.2.1 pc = .ok (.lastore, 1)) (hn : ab_N mi d K nx (pc + 1)) (h : ab_last nx ls st M) : ab_At mi d pc ls st M K := by
  unfold ab_last at h
  split at h
  · rename_i st x v g i rest
    intro p l e s m args below meth c G H locs lr hC hW hL hO
    have hO' := ab_ok_tail (ab_ok_tail (ab_ok_tail hO))
    have hi : i < ab_cnt g := ab_ok_head (ab_ok_tail (ab_ok_tail hO))
    have hlen := ab_gn g
    split at h
    · rename_i a1 n a2 a3 a4 hg
      have hlen : n < 1000 := by rw [hg] at hlen; exact hlen
      obtain ⟨j, hj, hjn, h⟩ := ab_ix_use (G := G) h
      have hg70 : g < 70 := ab_g70 (by rw [hg]; exact Nat.le_of_ble_eq_true rfl)
      rw [List.map_cons, List.map_cons, List.map_cons, hj]
      have hws := ab_ws_at G M hg70 hi
      have hc : ∀ M, ab_cel G M g i = .inl (G.2.2.2 2, n, .inr (.inl (M.2.1 g i))) := fun M => by unfold ab_cel; rw [hg]; first | done | rfl
      rw [hc] at hws
      refine va_last hC.1 hC.2.1 hW.2.1 hW.1 hW.2.2.1 hW.2.2.2.1 _ 2 hws rfl (vp_in_nI hjn (by omega)) hd fun H1 locs1 hP hD hS => ?_
      rw [nI_clamp (by omega), ← ab_sJ_row (M := M), ← hc (ab_sJ M g i j x)] at hP hD
      exact hn _ _ _ h p l e s m args below meth c G H1 locs1 lr hC (ab_W0_set hW hg70 hi ab_sJ_other hW.2.2.2.2.2.2.1 hP hD hS) hL hO'
    · exact h.elim
  · exact h.elim
/-- what is known of each class: its words, its fields' types -/
def ab_okC (q : vw_C) : Prop := (∀ w ∈ u_ws q.1 q.2.1 q.2.2, w ∈ ab_tb) ∧ (∃ ty : Nat → FieldType, ∀ k, k < q.2.2 → parseFieldDescriptor (q.2.1 k).2.2.1 = some (ty k)) ∧ ∀ a, a < q.2.2 → ∀ b, b < q.2.2 → a ≠ b → (q.2.1 a).2.1 ≠ (q.2.1 b).2.1
theorem ab_ic0 : ∀ w ∈ u_ws RX0 TX0 17, w ∈ ab_tb := by decide +kernel
theorem ab_ic1 : ∀ w ∈ u_ws RX1 TX1 8, w ∈ ab_tb := by decide +kernel
theorem ab_ic2 : ∀ w ∈ u_ws RX3 TX3 5, w ∈ ab_tb := by decide +kernel
theorem ab_ic3 : ∀ w ∈ u_ws RX4 TX4 8, w ∈ ab_tb := by decide +kernel
theorem ab_ic4 : ∀ w ∈ u_ws RX5 TX5 9, w ∈ ab_tb := by decide +kernel
theorem ab_ic5 : ∀ w ∈ u_ws RX6 TX6 5, w ∈ ab_tb := by decide +kernel
theorem ab_ic6 : ∀ w ∈ u_ws RX7 TX7 2, w ∈ ab_tb := by decide +kernel
theorem ab_ic7 : ∀ w ∈ u_ws RX8 TX8 7, w ∈ ab_tb := by decide +kernel
theorem ab_ic8 : ∀ w ∈ u_ws RX9 TX9 17, w ∈ ab_tb := by decide +kernel
theorem ab_ic9 : ∀ w ∈ u_ws RX10 TX10 29, w ∈ ab_tb := by decide +kernel
theorem ab_cls : ∀ (ci : Nat) (q : vw_C), vwCl[ci]? = some q → ab_okC q
  | 0, q, h => by cases h; exact ⟨ab_ic0, ⟨_, tyX0_ok⟩, nmX0⟩
  | 1, q, h => by cases h; exact ⟨ab_ic1, ⟨_, tyX1_ok⟩, nmX1⟩
  | 2, q, h => by cases h; exact ⟨ab_ic2, ⟨_, tyX3_ok⟩, nmX3⟩
  | 3, q, h => by cases h; exact ⟨ab_ic3, ⟨_, tyX4_ok⟩, nmX4⟩
  | 4, q, h => by cases h; exact ⟨ab_ic4, ⟨_, tyX5_ok⟩, nmX5⟩
  | 5, q, h => by cases h; exact ⟨ab_ic5, ⟨_, tyX6_ok⟩, nmX6⟩
  | 6, q, h => by cases h; exact ⟨ab_ic6, ⟨_, tyX7_ok⟩, nmX7⟩
  | 7, q, h => by cases h; exact ⟨ab_ic7, ⟨_, tyX8_ok⟩, nmX8⟩
  | 8, q, h => by cases h; exact ⟨ab_ic8, ⟨_, tyX9_ok⟩, nmX9⟩
  | 9, q, h => by cases h; exact ⟨ab_ic9, ⟨_, tyX10_ok⟩, nmX10⟩
  | n + 10, q, h => by simp [vwCl] at h
/-- fields of the groups, as the classes have them -/
def ab_fok (g : Nat) (q : vw_C) : Bool := (ab_fT.getD g []).length == q.2.2 && (List.range q.2.2).all (fun k => match ab_fd g k with
  | (0, _, _, _) => (q.2.1 k).2.2.1 == "I" && !(q.2.1 k).2.2.2
  | (1, _, _, _) => (q.2.1 k).2.2.1 == "J" && !(q.2.1 k).2.2.2
  | (2, h, mul, add) => (List.range (ab_cnt g)).all (fun i => Nat.blt (ab_id mul i add) (ab_cnt h))
  | (3, h, _, _) => ((q.2.1 k).2.2.1 == "[I" || (q.2.1 k).2.2.1 == "[J") && !(q.2.1 k).2.2.2 && ((g == 13 && k == 2 && h == 7) || (g == 49 && (k == 27 || k == 28) && h == 67))
  | _ => false)
theorem ab_fok_all : (List.range 70).all (fun g => match ab_gi g with
  | (5, _, ci, _, _, _) => (match vwCl[ci]? with
    | some q => ab_fok g q
    | none => false)
  | _ => true) = true := by decide +kernel
theorem ab_fok_use {g ci a1 a2 a3 a4 : Nat} (hg : ab_gi g = (5, a1, ci, a2, a3, a4)) : ∃ q, vwCl[ci]? = some q ∧ ab_fok g q = true := by
  have hg70 : g < 70 := ab_g70 (by rw [hg]; exact Nat.le_of_ble_eq_true rfl)
  have h := List.all_eq_true.mp ab_fok_all g (List.mem_range.mpr hg70)
  rw [hg] at h
  have h : (match vwCl[ci]? with
    | some q => ab_fok g q
    | none => false) = true := h
  cases hq : vwCl[ci]? with
  | none => rw [hq] at h; cases h
  | some q => rw [hq] at h; exact ⟨q, rfl, h⟩
theorem ab_fs_at {G : ab_G} {M : ab_M} {g i k : Nat} (h : k < (ab_fT.getD g []).length) : (ab_fs G M g i)[k]? = some (ab_fv G M g i k) := by
  unfold ab_fs
  rw [List.getElem?_map, List.getElem?_range h]
  rfl
/-- a field is linked -/
def ab_okF (own : String) (idx a b : Nat) : Prop := ∃ q : vw_C, vwCl[a]? = some q ∧ b < q.2.2 ∧ Cond.fieldLink own idx (q.2.1 b).1 (q.2.1 b).2.1 (q.2.1 b).2.2.1 ∈ ab_tb
theorem abo_getf {idx a b : Nat} (hd : decode mi.2.1 pc = .ok (.getfield idx, 3)) (hf : ab_okF mi.1.cls idx a b) (hn : ab_N mi d K nx (pc + 3)) (h : ab_getf a b nx ls st M) : ab_At mi d pc ls st M K := by
  unfold ab_getf at h
  split at h
  · rename_i st g i rest
    split at h
    · rename_i a1 ci a2 a3 a4 hg
      split at h
      · rename_i hca
        have hca : ci = a := Nat.eq_of_beq_eq_true hca
        subst hca
        intro p l e s m args below meth c G H locs lr hC hW hL hO
        have hO' := ab_ok_tail hO
        have hi : i < ab_cnt g := ab_ok_head hO
        have hg70 : g < 70 := ab_g70 (by rw [hg]; exact Nat.le_of_ble_eq_true rfl)
        obtain ⟨q, hq, hb, hl⟩ := hf
        obtain ⟨q', hq', hok⟩ := ab_fok_use hg
        cases hq.symm.trans hq'
        have hws := ab_ws_at G M hg70 hi
        have hc : ab_cel G M g i = .inr (ci, ab_fs G M g i) := by unfold ab_cel; rw [hg]; first | done | rfl
        rw [hc] at hws
        simp only [ab_fok, Bool.and_eq_true, beq_iff_eq] at hok
        have hk := List.all_eq_true.mp hok.2 b (List.mem_range.mpr hb)
        have row : ∀ v : ab_V, ab_fv G M g i b = ab_rv G v → ab_okV v → nx ls (v :: rest) M → W p l e (ab_R d) s m args below meth c H locs 0 0 (MQ below (ab_Q G K) args s 0 0 (ab_A G)) (F0 m pc lr ((.inr (.inr (.inr (g, i))) :: rest : List ab_V).map (ab_rv G))) := by
          intro v hv hok2 h
          refine va_get (v := ab_fv G M g i b) hC.1 hC.2.1 hC.2.2.2.2.2.1 (ab_cls ci q hq).1 hC.2.2.2.2.1 hW.2.1 hW.1 _ hws hq b hb (hC.2.2.2.2.2.1 _ hl) (fun _ h9 => h9) (ab_fs_at (by rw [hok.1]; exact hb)) hd ?_
          rw [hv]
          exact hn _ _ _ h p l e s m args below meth c G H locs lr hC hW hL (ab_ok_cons hO' hok2)
        split at h
        · rename_i b1 b2 b3 hfd
          exact row (vi (M.1 g i b)) (by unfold ab_fv; rw [hfd]; first | done | rfl) trivial h
        · rename_i b1 b2 b3 hfd
          exact row (vl (M.2.1 g i b)) (by unfold ab_fv; rw [hfd]; first | done | rfl) trivial h
        · rename_i g2 mul add hfd
          rw [hfd] at hk
          have hlt := List.all_eq_true.mp hk i (List.mem_range.mpr hi)
          have hlt : ab_id mul i add < ab_cnt g2 := Nat.le_of_ble_eq_true hlt
          refine row (vr g2 (ab_id mul i add)) (by unfold ab_fv; rw [hfd]; first | done | rfl) hlt ?_
          unfold ab_id
          split at h <;> exact h
        · rename_i g2 b2 b3 hfd
          rw [hfd] at hk
          refine row (vr g2 (M.2.2 g i b)) (by unfold ab_fv; rw [hfd]; first | done | rfl) ?_ h
          simp only [Bool.and_eq_true, Bool.or_eq_true, beq_iff_eq] at hk
          have hX := hW.2.2.2.2.2.2.1
          have c7 : ab_cnt 7 = 5 := by decide +kernel
          have c67 : ab_cnt 67 = 2 := by decide +kernel
          have hcg : ab_cnt g = 1 := by
            rcases hk.2 with ⟨⟨k1, k2⟩, k3⟩ | ⟨⟨k1, k2⟩, k3⟩
            · rw [k1]; decide +kernel
            · rw [k1]; decide +kernel
          have hi0 : i = 0 := by omega
          subst hi0
          rcases hk.2 with ⟨⟨k1, k2⟩, k3⟩ | ⟨⟨k1, k2⟩, k3⟩
          · subst k1; subst k2; subst k3
            show M.2.2 13 0 2 < ab_cnt 7
            rw [c7]; exact hX.1
          · subst k1; subst k3
            rcases k2 with k2 | k2
            · subst k2
              show M.2.2 49 0 27 < ab_cnt 67
              rw [c67]; exact hX.2.1
            · subst k2
              show M.2.2 49 0 28 < ab_cnt 67
              rw [c67]; exact hX.2.2.1
        · exact h.elim
      · exact h.elim
    · exact h.elim
  · exact h.elim
theorem ab_fs_set {G : ab_G} {M M' : ab_M} {g i k : Nat} {v : Value} (hv : ab_fv G M' g i k = v) (ho : ∀ j, j ≠ k → ab_fv G M' g i j = ab_fv G M g i j) : (ab_fs G M g i).set k v = ab_fs G M' g i := by
  refine List.ext_getElem? fun n => ?_
  by_cases hl : n < (ab_fT.getD g []).length
  · rw [ab_fs_at hl]
    by_cases hn : n = k
    · subst hn
      rw [List.getElem?_set_self (by unfold ab_fs; simpa using hl), hv]
    · rw [List.getElem?_set_ne (Ne.symm hn), ab_fs_at hl, ho n hn]
  · rw [List.getElem?_eq_none (by unfold ab_fs; simp; simpa using hl), List.getElem?_eq_none (by unfold ab_fs; simp; simpa using hl)]
theorem abo_putf {idx a b : Nat} (hd : decode mi.2.1 pc = .ok (.putfield idx, 3)) (hf : ab_okF mi.1.cls idx a b) (hn : ab_N mi d K nx (pc + 3)) (h : ab_putf a b nx ls st M) : ab_At mi d pc ls st M K := by
  unfold ab_putf at h
  split at h
  · rename_i v g i rest
    split at h
    · rename_i a1 ci a2 a3 a4 hg
      split at h
      · rename_i hca
        have hca : ci = a := Nat.eq_of_beq_eq_true hca
        subst hca
        intro p l e s m args below meth c G H locs lr hC hW hL hO
        have hO' := ab_ok_tail (ab_ok_tail hO)
        have hi : i < ab_cnt g := ab_ok_head (ab_ok_tail hO)
        have hg70 : g < 70 := ab_g70 (by rw [hg]; exact Nat.le_of_ble_eq_true rfl)
        obtain ⟨q, hq, hb, hl⟩ := hf
        obtain ⟨q', hq', hok⟩ := ab_fok_use hg
        cases hq.symm.trans hq'
        have hws := ab_ws_at G M hg70 hi
        have hc : ∀ M, ab_cel G M g i = .inr (ci, ab_fs G M g i) := fun M => by unfold ab_cel; rw [hg]; first | done | rfl
        rw [hc] at hws
        simp only [ab_fok, Bool.and_eq_true, beq_iff_eq] at hok
        have hk := List.all_eq_true.mp hok.2 b (List.mem_range.mpr hb)
        have hlen : b < (ab_fs G M g i).length := by unfold ab_fs; rw [List.length_map, List.length_range, hok.1]; exact hb
        obtain ⟨hcw, ⟨ty0, hty⟩, hnm⟩ := ab_cls ci q hq
        have row : ∀ (w : Value) (ty : FieldType) (M' : ab_M), ab_rv G v = w → parseFieldDescriptor (q.2.1 b).2.2.1 = some ty → narrow ty w = w → fits ty w = true → (q.2.1 b).2.2.2 = false → (ab_fs G M g i).set b w = ab_fs G M' g i → (∀ a b, ¬ (a = g ∧ b = i) → M'.1 a b = M.1 a b ∧ M'.2.1 a b = M.2.1 a b ∧ M'.2.2 a b = M.2.2 a b) → ab_X M' → nx ls rest M' → W p l e (ab_R d) s m args below meth c H locs 0 0 (MQ below (ab_Q G K) args s 0 0 (ab_A G)) (F0 m pc lr ((v :: .inr (.inr (.inr (g, i))) :: rest : List ab_V).map (ab_rv G))) := by
          intro w ty M' hv hp hna hfi hfin hset hoth hX h
          rw [List.map_cons, hv]
          refine va_put hC.1 hC.2.1 hC.2.2.2.2.2.1 hcw ty0 hty hnm hC.2.2.2.2.1 hW.2.1 hW.1 hW.2.2.1 hW.2.2.2.1 _ hws hq b hb (hC.2.2.2.2.2.1 _ hl) (fun _ h9 => h9) hfin hp hna hfi hlen hd fun H1 locs1 hP hD hS => ?_
          rw [hset, ← hc M'] at hP hD
          exact hn _ _ _ h p l e s m args below meth c G H1 locs1 lr hC (ab_W0_set hW hg70 hi hoth hX hP hD hS) hL hO'
        split at h
        · rename_i b1 b2 b3 hfd
          rw [hfd] at hk
          simp only [Bool.and_eq_true, beq_iff_eq, Bool.not_eq_true'] at hk
          split at h
          · rename_i x hx
            refine row (.int x) .int (ab_sI M g i b x) (ab_nv_use hx) (by rw [hk.1]; decide +kernel) rfl rfl hk.2 (ab_fs_set ?_ ?_) ab_sI_other hW.2.2.2.2.2.2.1 h
            · unfold ab_fv
              rw [hfd]
              show Value.int (if g = g ∧ i = i ∧ b = b then x else M.1 g i b) = _
              simp
            · intro j hj
              unfold ab_fv
              rw [show (ab_sI M g i b x).1 g i j = M.1 g i j from if_neg (fun q => hj q.2.2)]
              rfl
          · exact h.elim
        · rename_i b1 b2 b3 hfd
          rw [hfd] at hk
          simp only [Bool.and_eq_true, beq_iff_eq, Bool.not_eq_true'] at hk
          split at h
          · rename_i x
            refine row (.long x) .long (ab_sJ M g i b x) rfl (by rw [hk.1]; decide +kernel) rfl rfl hk.2 (ab_fs_set ?_ ?_) ab_sJ_other hW.2.2.2.2.2.2.1 h
            · unfold ab_fv
              rw [hfd]
              show Value.long (if g = g ∧ i = i ∧ b = b then x else M.2.1 g i b) = _
              simp
            · intro j hj
              unfold ab_fv
              rw [show (ab_sJ M g i b x).2.1 g i j = M.2.1 g i j from if_neg (fun q => hj q.2.2)]
              rfl
          · exact h.elim
        · rename_i g2 b2 b3 hfd
          rw [hfd] at hk
          simp only [Bool.and_eq_true, Bool.or_eq_true, beq_iff_eq, Bool.not_eq_true'] at hk
          split at h
          · rename_i qv
            split at h
            · rename_i hq2
              have hq2 : qv.1 = g2 := Nat.eq_of_beq_eq_true hq2
              have hv2 : qv.2 < ab_cnt qv.1 := ab_ok_head hO
              rw [hq2] at hv2
              have hfv : ∀ j, j ≠ b → ab_fv G (ab_sX M g i b qv.2) g i j = ab_fv G M g i j := by
                intro j hj
                unfold ab_fv
                rw [show (ab_sX M g i b qv.2).2.2 g i j = M.2.2 g i j from if_neg (fun q => hj q.2.2)]
                rfl
              have hfb : ab_fv G (ab_sX M g i b qv.2) g i b = ab_rv G (.inr (.inr (.inr qv))) := by
                unfold ab_fv
                rw [hfd]
                show Value.ref (G.2.2.1 (ab_pl g2 (if g = g ∧ i = i ∧ b = b then qv.2 else M.2.2 g i b))) = .ref (G.2.2.1 (ab_pl qv.1 qv.2))
                rw [hq2]
                simp
              have hX := hW.2.2.2.2.2.2.1
              have hX' : ab_X (ab_sX M g i b qv.2) := by
                have c7 : ab_cnt 7 = 5 := by decide +kernel
                have c67 : ab_cnt 67 = 2 := by decide +kernel
                obtain ⟨x1, x2, x3, x4⟩ := hX
                rcases hk.2 with ⟨⟨k1, k2⟩, k3⟩ | ⟨⟨k1, k2⟩, k3⟩
                · subst k1; subst k2; subst k3
                  refine ⟨?_, ?_, ?_, ?_⟩
                  · show (if 13 = 13 ∧ 0 = i ∧ 2 = 2 then qv.2 else M.2.2 13 0 2) < 5
                    split <;> omega
                  · show (if 49 = 13 ∧ 0 = i ∧ 27 = 2 then qv.2 else M.2.2 49 0 27) < 2
                    rw [if_neg (by omega)]; exact x2
                  · show (if 49 = 13 ∧ 0 = i ∧ 28 = 2 then qv.2 else M.2.2 49 0 28) < 2
                    rw [if_neg (by omega)]; exact x3
                  · show (if 71 = 13 ∧ 0 = i ∧ 0 = 2 then qv.2 else M.2.2 71 0 0) < 2 ^ 31
                    rw [if_neg (by omega)]; exact x4
                · subst k1; subst k3
                  refine ⟨?_, ?_, ?_, ?_⟩
                  · show (if 13 = 49 ∧ 0 = i ∧ 2 = b then qv.2 else M.2.2 13 0 2) < 5
                    rw [if_neg (by omega)]; exact x1
                  · show (if 49 = 49 ∧ 0 = i ∧ 27 = b then qv.2 else M.2.2 49 0 27) < 2
                    split <;> omega
                  · show (if 49 = 49 ∧ 0 = i ∧ 28 = b then qv.2 else M.2.2 49 0 28) < 2
                    split <;> omega
                  · show (if 71 = 49 ∧ 0 = i ∧ 0 = b then qv.2 else M.2.2 71 0 0) < 2 ^ 31
                    rw [if_neg (by omega)]; exact x4
              rcases hk.1.1 with k1 | k1
              · exact row _ (.array .int) (ab_sX M g i b qv.2) rfl (by rw [k1]; decide +kernel) rfl rfl hk.1.2 (ab_fs_set hfb hfv) ab_sX_other hX' h
              · exact row _ (.array .long) (ab_sX M g i b qv.2) rfl (by rw [k1]; decide +kernel) rfl rfl hk.1.2 (ab_fs_set hfb hfv) ab_sX_other hX' h
            · exact h.elim
          · exact h.elim
        · exact h.elim
      · exact h.elim
    · exact h.elim
  · exact h.elim
end ABS
