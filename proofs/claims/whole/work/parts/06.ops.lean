/-! ===== branches, arrays ===== -/
section ABR
variable {mi : ab_I} {d pc : Nat} {K : ab_K} {nx tg : ab_P} {ls : ab_L} {st : List ab_V} {M : ab_M}
theorem ab_ile {x y : Int32} (h : ¬ x ≤ y) : y < x := by
  rw [Int32.le_iff_toInt_le] at h
  rw [Int32.lt_iff_toInt_lt]
  omega
theorem ab_ilt {x y : Int32} (h : ¬ x < y) : y ≤ x := by
  rw [Int32.lt_iff_toInt_lt] at h
  rw [Int32.le_iff_toInt_le]
  omega
theorem abo_if2 {cd : ClassFile.Cond} {off : Int} {t : Nat} (hd : decode mi.2.1 pc = .ok (.if_icmp cd off, 3)) (ht : (pc : Int) + off = (t : Int)) (hj : ab_N mi d K tg t) (hn : ab_N mi d K nx (pc + 3)) (h : ab_if2 cd tg nx ls st M) : ab_At mi d pc ls st M K := by
  unfold ab_if2 at h
  split at h
  · rename_i b a rest
    intro p l e s m args below meth c G H locs lr hC hW hL hO
    have hO' := ab_ok_tail (ab_ok_tail hO)
    obtain ⟨x, y, hx, hy, h⟩ := ab_br_cp (ab_ok_head (ab_ok_tail hO)) (ab_ok_head hO) h
    rw [List.map_cons, List.map_cons, ab_nv_use hx, ab_nv_use hy]
    have kj : tg ls rest M → W p l e (ab_R d) s m args below meth c H locs 0 0 (MQ below (ab_Q G K) args s 0 0 (ab_A G)) (F0 m t lr (rest.map (ab_rv G))) := fun q => hj _ _ _ q p l e s m args below meth c G H locs lr hC hW hL hO'
    have kn : nx ls rest M → W p l e (ab_R d) s m args below meth c H locs 0 0 (MQ below (ab_Q G K) args s 0 0 (ab_A G)) (F0 m (pc + 3) lr (rest.map (ab_rv G))) := fun q => hn _ _ _ q p l e s m args below meth c G H locs lr hC hW hL hO'
    cases cd <;> simp only [ab_cp] at h
    · exact lv_icmp_eq hC.1 hC.2.1 hd ht (fun q => kj (h.1 q)) (fun q => kn (h.2 q))
    · exact lv_icmp_ne hC.1 hC.2.1 hd ht (fun q => kj (h.1 q)) (fun q => kn (h.2 (by first | exact q | exact Classical.not_not.mp q)))
    · exact lv_icmp_lt hC.1 hC.2.1 hd ht (fun q => kj (h.1 q)) (fun q => kn (h.2 (ab_ilt q)))
    · exact lv_icmp_ge hC.1 hC.2.1 hd ht (fun q => kj (h.1 q)) (fun q => kn (h.2 (ab_ile q)))
    · exact lv_icmp_gt hC.1 hC.2.1 hd ht (fun q => kj (h.1 q)) (fun q => kn (h.2 (ab_ilt q)))
    · exact lv_icmp_le hC.1 hC.2.1 hd ht (fun q => kj (h.1 q)) (fun q => kn (h.2 (ab_ile q)))
  · exact h.elim
theorem abo_if0 {cd : ClassFile.Cond} {off : Int} {t : Nat} (hd : decode mi.2.1 pc = .ok (.ifCond cd off, 3)) (ht : (pc : Int) + off = (t : Int)) (hj : ab_N mi d K tg t) (hn : ab_N mi d K nx (pc + 3)) (h : ab_if0 cd tg nx ls st M) : ab_At mi d pc ls st M K := by
  unfold ab_if0 at h
  split at h
  · rename_i a rest
    intro p l e s m args below meth c G H locs lr hC hW hL hO
    have hO' := ab_ok_tail hO
    obtain ⟨x, y, hx, hy, h⟩ := ab_br_cp (ab_ok_head hO) (show ab_okV (.inl 0) by constructor <;> decide) h
    have hy0 : y = 0 := by cases hy; rfl
    subst hy0
    rw [List.map_cons, ab_nv_use hx]
    have kj : tg ls rest M → W p l e (ab_R d) s m args below meth c H locs 0 0 (MQ below (ab_Q G K) args s 0 0 (ab_A G)) (F0 m t lr (rest.map (ab_rv G))) := fun q => hj _ _ _ q p l e s m args below meth c G H locs lr hC hW hL hO'
    have kn : nx ls rest M → W p l e (ab_R d) s m args below meth c H locs 0 0 (MQ below (ab_Q G K) args s 0 0 (ab_A G)) (F0 m (pc + 3) lr (rest.map (ab_rv G))) := fun q => hn _ _ _ q p l e s m args below meth c G H locs lr hC hW hL hO'
    cases cd <;> simp only [ab_cp] at h
    · exact lv_if_eq hC.1 hC.2.1 hd ht (fun q => kj (h.1 q)) (fun q => kn (h.2 q))
    · exact lv_if_ne hC.1 hC.2.1 hd ht (fun q => kj (h.1 q)) (fun q => kn (h.2 (by first | exact q | exact Classical.not_not.mp q)))
    · exact lv_if_lt hC.1 hC.2.1 hd ht (fun q => kj (h.1 q)) (fun q => kn (h.2 (ab_ilt q)))
    · exact lv_if_ge hC.1 hC.2.1 hd ht (fun q => kj (h.1 q)) (fun q => kn (h.2 (ab_ile q)))
    · exact lv_if_gt hC.1 hC.2.1 hd ht (fun q => kj (h.1 q)) (fun q => kn (h.2 (ab_ilt q)))
    · exact lv_if_le hC.1 hC.2.1 hd ht (fun q => kj (h.1 q)) (fun q => kn (h.2 (ab_ile q)))
  · exact h.elim
theorem abo_goto {off : Int} {t : Nat} (hd : decode mi.2.1 pc = .ok (.goto off, 3)) (ht : (pc : Int) + off = (t : Int)) (hj : ab_N mi d K tg t) (h : tg ls st M) : ab_At mi d pc ls st M K := by
  intro p l e s m args below meth c G H locs lr hC hW hL hO
  exact lv_goto hC.1 hC.2.1 hd ht (hj _ _ _ h p l e s m args below meth c G H locs lr hC hW hL hO)
/-- a switch -/
theorem ab_sw_at {x : Int32} {jp : Int → Prop} : ∀ (os : List Int) (k : Int), ab_sw x jp k os → ∀ (i : Nat) (o : Int), os[i]? = some o → x = ab_cv (k + i) → jp o
  | [], k, _, i, o, h, _ => by simp at h
  | o1 :: os, k, h, 0, o, h1, h2 => by
    simp at h1
    subst h1
    exact h.1 (by rw [h2]; simp)
  | o1 :: os, k, h, i + 1, o, h1, h2 => by
    refine ab_sw_at os (k + 1) h.2 i o (by simpa using h1) ?_
    rw [h2]
    congr 1
    push_cast
    omega
theorem abo_tsw {df lo hi : Int} {os : Array Int} {len : Nat} (hd : decode mi.2.1 pc = .ok (.tableswitch df lo hi os, len)) (hh : hi + 1 = lo + os.toList.length) (hlo : -32768 ≤ lo) (hhi : hi ≤ 32767) {jp : Int → ab_P} (hj : ∀ off : Int, off ∈ df :: os.toList → ∃ t : Nat, (pc : Int) + off = t ∧ ab_N mi d K (jp off) t)
    {v : ab_V} {x : Int32} (hv : ab_nv v = some x) (h : (x.toInt < lo ∨ lo + os.toList.length ≤ x.toInt → jp df ls st M) ∧ ab_sw x (fun o => jp o ls st M) lo os.toList) : ab_At mi d pc ls (v :: st) M K := by
  intro p l e s m args below meth c G H locs lr hC hW hL hO
  rw [List.map_cons, ab_nv_use hv]
  have hO' := ab_ok_tail hO
  by_cases h1 : x.toInt < lo ∨ lo + os.toList.length ≤ x.toInt
  · obtain ⟨t, ht, hN⟩ := hj df List.mem_cons_self
    exact lv_tableOut hC.1 hC.2.1 hd (by omega) ht (hN _ _ _ (h.1 h1) p l e s m args below meth c G H locs lr hC hW hL hO')
  · have hi : (x.toInt - lo).toNat < os.toList.length := by omega
    obtain ⟨o, ho⟩ : ∃ o, os.toList[(x.toInt - lo).toNat]? = some o := ⟨_, List.getElem?_eq_getElem hi⟩
    obtain ⟨t, ht, hN⟩ := hj o (List.mem_cons_of_mem _ (List.mem_of_getElem? ho))
    refine lv_tableIn hC.1 hC.2.1 hd (by omega) (by omega) (by rw [← Array.getElem?_toList]; exact ho) ht (hN _ _ _ (ab_sw_at os.toList lo h.2 _ o ho ?_) p l e s m args below meth c G H locs lr hC hW hL hO')
    apply Int32.toInt_inj.mp
    rw [ab_cv_toInt ⟨by omega, by omega⟩]
    omega
/-- arrays -/
theorem ab_aldA {p : Program} {l : Launch} {e : Env} {R : Room} {s : State} {m : MethodId} {args : Array Value} {below : List Frame} {meth : Method} {c : Code} {H : Heap} {locs : List Loc} {cells slots : Nat} {Q : State → Prop} {cc : ByteArray} {pc : Nat} {ls : Array Slot} {rest : List Value} {D : va_G} {cl : List vw_C} {tys : List (ClassId × FieldType)} {ws : va_W} {a : Nat}
    (hexec : p.tables.exec = Jvm.exec) (hb : c.code = cc) (hK : va_K D cl tys s) (hP : va_P D cl ws H) (q0 t0 : Nat) {cA : ClassId} {ty : FieldType} {n : Nat} {f : Nat → Option Nat} (ha : ws[q0]? = some (a, .inl (cA, n, .inr (.inr (.inr (.inr f)))))) (ht : tys[t0]? = some (cA, .array ty)) {i : Int32} (hin : vp_in i n) (hdg : decode cc pc = .ok (.aaload, 1))
    (kk : W p l e R s m args below meth c H locs cells slots Q (F0 m (pc + 1) ls (va_rf (f i.toNatClampNeg) :: rest))) : W p l e R s m args below meth c H locs cells slots Q (F0 m pc ls (.int i :: .ref a :: rest)) := by
  have hlt : i.toNatClampNeg < n := Nat.not_le.mp fun q => hin (Or.inr q)
  exact W.aald (v := va_rf (f i.toNatClampNeg)) (ty := .array ty) hexec hb (hP q0 _ ha) ((hK.2 t0 _ ht).1 n (fun j => va_rf (f j))) rfl (fun q => by cases q) (by show ¬ (i < 0 ∨ (arrV _ _ _).slots.size ≤ _); rw [arrV_size]; exact hin) (by show (arrV _ _ _).slots[_]? = _; rw [arrV_read _ _ hlt]) rfl rfl hdg kk
theorem abo_iald (hd : decode mi.2.1 pc = .ok (.iaload, 1)) (hn : ab_N mi d K nx (pc + 1)) (h : ab_iald nx ls st M) : ab_At mi d pc ls st M K := by
  unfold ab_iald at h
  split at h
  · rename_i v g i rest
    intro p l e s m args below meth c G H locs lr hC hW hL hO
    have hO' := ab_ok_tail (ab_ok_tail hO)
    have hi : i < ab_cnt g := ab_ok_head (ab_ok_tail hO)
    have hlen := ab_gn g
    obtain ⟨h1, h2, h3, h4, h5, h6, h7, h8, h9⟩ := hW
    have hW : ab_W0 G M s H locs := ⟨h1, h2, h3, h4, h5, h6, h7, h8, h9⟩
    split at h
    · rename_i a1 n a2 a3 a4 hg
      have hlen : n < 1000 := by rw [hg] at hlen; exact hlen
      obtain ⟨j, hj, hjn, h⟩ := ab_ix_use (G := G) h
      have hg70 : g < 70 := ab_g70 (by rw [hg]; exact Nat.le_of_ble_eq_true rfl)
      rw [List.map_cons, List.map_cons, hj]
      have hws := ab_ws_at G M hg70 hi
      have hc : ab_cel G M g i = .inl (G.2.2.2 0, n, .inl (M.1 g i)) := by unfold ab_cel; rw [hg]; first | done | rfl
      rw [hc] at hws
      refine va_iald hC.1 hC.2.1 h2 h1 _ 0 hws rfl (vp_in_nI hjn (by omega)) hd ?_
      rw [nI_clamp (by omega)]
      exact hn _ _ _ h p l e s m args below meth c G H locs lr hC hW hL (ab_ok_cons hO' trivial)
    · rename_i a1 n a2 a3 a4 hg
      obtain ⟨j, hj, hjn, h⟩ := ab_ix_use (G := G) h
      have hg70 : g < 70 := ab_g70 (by rw [hg]; exact Nat.le_of_ble_eq_true rfl)
      rw [List.map_cons, List.map_cons, hj]
      have hws := ab_ws_at G M hg70 hi
      have hc : ab_cel G M g i = .inl (G.2.2.2 0, (if i = 4 then 0 else 80), .inl (M.1 g i)) := by unfold ab_cel; rw [hg]; first | done | rfl
      rw [hc] at hws
      have hj80 : j < 80 := by split at hjn <;> omega
      refine va_iald hC.1 hC.2.1 h2 h1 _ 0 hws rfl (vp_in_nI hjn (by split <;> omega)) hd ?_
      rw [nI_clamp (by omega)]
      exact hn _ _ _ h p l e s m args below meth c G H locs lr hC hW hL (ab_ok_cons hO' trivial)
    · rename_i a1 n a2 a3 a4 hg
      obtain ⟨j, hj, hjn, h⟩ := ab_ix_use (G := G) h
      have hg7 : g = 71 := ab_g7 (by rw [hg])
      subst hg7
      have hi0 : i = 0 := by have : ab_cnt 71 = 1 := by decide +kernel
                             omega
      subst hi0
      rw [List.map_cons, List.map_cons, hj]
      obtain ⟨-, ⟨cell, t1, t2, t3, t4, t5, t6, t7⟩⟩ := h5
      have hX := h7.2.2.2
      have hin := vp_in_nI hjn hX
      refine W.iald (v := .int (M.1 71 0 j)) hC.1 hC.2.1 t1 t2 t3 (fun q => hin (q.elim Or.inl (fun q => Or.inr (Nat.le_trans t4 q)))) (by rw [nI_clamp (by omega)]; exact t6 j hjn) rfl rfl hd ?_
      exact hn _ _ _ h p l e s m args below meth c G H locs lr hC hW hL (ab_ok_cons hO' trivial)
    · rename_i a1 n a2 a3 a4 hg
      obtain ⟨j, hj, hjn, h⟩ := ab_ix_use (G := G) h
      have hg8 : g = 70 := ab_g8 (by rw [hg])
      subst hg8
      have hi0 : i = 0 := by have : ab_cnt 70 = 1 := by decide +kernel
                             omega
      subst hi0
      rw [List.map_cons, List.map_cons, hj]
      obtain ⟨⟨cell, t1, t2, t3, t4, t5, t6, t7⟩, -⟩ := h5
      have hin := vp_in_nI hjn (by omega)
      refine W.iald (v := .int (M.1 70 0 j)) hC.1 hC.2.1 t1 t2 t3 (fun q => hin (q.elim Or.inl (fun q => Or.inr (Nat.le_trans t4 q)))) (by rw [nI_clamp (by omega)]; exact t6 j hjn) rfl rfl hd ?_
      exact hn _ _ _ h p l e s m args below meth c G H locs lr hC hW hL (ab_ok_cons hO' trivial)
    · exact h.elim
  · exact h.elim
theorem abo_zald (hd : decode mi.2.1 pc = .ok (.baload, 1)) (hn : ab_N mi d K nx (pc + 1)) (h : ab_zald nx ls st M) : ab_At mi d pc ls st M K := by
  unfold ab_zald at h
  split at h
  · rename_i v g i rest
    intro p l e s m args below meth c G H locs lr hC hW hL hO
    have hO' := ab_ok_tail (ab_ok_tail hO)
    have hi : i < ab_cnt g := ab_ok_head (ab_ok_tail hO)
    have hlen := ab_gn g
    split at h
    · rename_i a1 n a2 a3 a4 hg
      have hlen : n < 1000 := by rw [hg] at hlen; exact hlen
      obtain ⟨j, hj, hjn, h⟩ := ab_ix_use (G := G) h
      have hg70 : g < 70 := ab_g70 (by rw [hg]; exact Nat.le_of_ble_eq_true rfl)
      rw [List.map_cons, List.map_cons, hj]
      have hws := ab_ws_at G M hg70 hi
      have hc : ab_cel G M g i = .inl (G.2.2.2 1, n, .inl (M.1 g i)) := by unfold ab_cel; rw [hg]; first | done | rfl
      rw [hc] at hws
      refine va_zald hC.1 hC.2.1 hW.2.1 hW.1 _ 1 hws rfl (vp_in_nI hjn (by omega)) hd ?_
      rw [nI_clamp (by omega)]
      exact hn _ _ _ h p l e s m args below meth c G H locs lr hC hW hL (ab_ok_cons hO' trivial)
    · exact h.elim
  · exact h.elim
theorem abo_lald (hd : decode mi.2.1 pc = .ok (.laload, 1)) (hn : ab_N mi d K nx (pc + 1)) (h : ab_lald nx ls st M) : ab_At mi d pc ls st M K := by
  unfold ab_lald at h
  split at h
  · rename_i v g i rest
    intro p l e s m args below meth c G H locs lr hC hW hL hO
    have hO' := ab_ok_tail (ab_ok_tail hO)
    have hi : i < ab_cnt g := ab_ok_head (ab_ok_tail hO)
    have hlen := ab_gn g
    split at h
    · rename_i a1 n a2 a3 a4 hg
      have hlen : n < 1000 := by rw [hg] at hlen; exact hlen
      obtain ⟨j, hj, hjn, h⟩ := ab_ix_use (G := G) h
      have hg70 : g < 70 := ab_g70 (by rw [hg]; exact Nat.le_of_ble_eq_true rfl)
      rw [List.map_cons, List.map_cons, hj]
      have hws := ab_ws_at G M hg70 hi
      have hc : ab_cel G M g i = .inl (G.2.2.2 2, n, .inr (.inl (M.2.1 g i))) := by unfold ab_cel; rw [hg]; first | done | rfl
      rw [hc] at hws
      refine va_lald hC.1 hC.2.1 hW.2.1 hW.1 _ 2 hws rfl (vp_in_nI hjn (by omega)) hd ?_
      rw [nI_clamp (by omega)]
      exact hn _ _ _ h p l e s m args below meth c G H locs lr hC hW hL (ab_ok_cons hO' trivial)
    · exact h.elim
  · exact h.elim
/-- an element of an array of references is a cell -/
theorem ab_elt_ok : ∀ g, g < 70 → ((ab_gi g).1 = 3 ∨ (ab_gi g).1 = 4) → ∀ i, i < ab_cnt g → ∀ j, j < (ab_gi g).2.2.1 → ab_ej (ab_gi g).2.2.2.2.1 (ab_gi g).2.2.2.2.2 i j < ab_cnt (ab_gi g).2.2.2.1 := by decide +kernel
theorem ab_aald_ej {em ea eg i j : Nat} {rest : List ab_V} (h : match em, ea with
      | 0, 0 => nx ls (vr eg j :: rest) M
      | 0, ea + 1 => nx ls (vr eg (ea + 1 + j) :: rest) M
      | em + 1, _ => nx ls (vr eg ((em + 1) * i + j) :: rest) M) : nx ls (vr eg (ab_ej em ea i j) :: rest) M := by
  unfold ab_ej
  split at h <;> exact h
theorem abo_aald (hd : decode mi.2.1 pc = .ok (.aaload, 1)) (hn : ab_N mi d K nx (pc + 1)) (h : ab_aald nx ls st M) : ab_At mi d pc ls st M K := by
  unfold ab_aald at h
  split at h
  · rename_i v g i rest
    intro p l e s m args below meth c G H locs lr hC hW hL hO
    have hO' := ab_ok_tail (ab_ok_tail hO)
    have hi : i < ab_cnt g := ab_ok_head (ab_ok_tail hO)
    have hlen := ab_gn g
    split at h
    · rename_i a1 n eg em ea hg
      have hlen : n < 1000 := by rw [hg] at hlen; exact hlen
      obtain ⟨j, hj, hjn, h⟩ := ab_ix_use (G := G) h
      have hg70 : g < 70 := ab_g70 (by rw [hg]; exact Nat.le_of_ble_eq_true rfl)
      rw [List.map_cons, List.map_cons, hj]
      have hws := ab_ws_at G M hg70 hi
      have hc : ab_cel G M g i = .inl (G.2.2.2 3, n, .inr (.inr (.inr (.inr (fun j => if j < n then some (G.2.2.1 (ab_pl eg (ab_ej em ea i j))) else none))))) := by unfold ab_cel; rw [hg]; first | done | rfl
      rw [hc] at hws
      refine ab_aldA hC.1 hC.2.1 hW.2.1 hW.1 _ 3 hws rfl (vp_in_nI hjn (by omega)) hd ?_
      rw [nI_clamp (by omega), if_pos hjn]
      have hel := ab_elt_ok g hg70 (Or.inl (by rw [hg])) i hi j (by rw [hg]; exact hjn)
      rw [hg] at hel
      exact hn _ _ _ (ab_aald_ej h) p l e s m args below meth c G H locs lr hC hW hL (ab_ok_cons hO' hel)
    · rename_i a1 n eg em ea hg
      have hlen : n < 1000 := by rw [hg] at hlen; exact hlen
      obtain ⟨j, hj, hjn, h⟩ := ab_ix_use (G := G) h
      have hg70 : g < 70 := ab_g70 (by rw [hg]; exact Nat.le_of_ble_eq_true rfl)
      rw [List.map_cons, List.map_cons, hj]
      have hws := ab_ws_at G M hg70 hi
      have hc : ab_cel G M g i = .inl (G.2.2.2 4, n, .inr (.inr (.inr (.inr (fun j => if j < n then some (G.2.2.1 (ab_pl eg (ab_ej em ea i j))) else none))))) := by unfold ab_cel; rw [hg]; first | done | rfl
      rw [hc] at hws
      refine va_aldq hC.1 hC.2.1 hW.2.1 hW.1 _ 4 hws rfl (vp_in_nI hjn (by omega)) hd ?_
      rw [nI_clamp (by omega), if_pos hjn]
      have hel := ab_elt_ok g hg70 (Or.inr (by rw [hg])) i hi j (by rw [hg]; exact hjn)
      rw [hg] at hel
      exact hn _ _ _ (ab_aald_ej h) p l e s m args below meth c G H locs lr hC hW hL (ab_ok_cons hO' hel)
    · exact h.elim
  · exact h.elim
theorem abo_alen (hd : decode mi.2.1 pc = .ok (.arraylength, 1)) (hn : ab_N mi d K nx (pc + 1)) (h : ab_alen nx ls st M) : ab_At mi d pc ls st M K := by
  unfold ab_alen at h
  split at h
  · rename_i st g i rest
    intro p l e s m args below meth c G H locs lr hC hW hL hO
    have hO' := ab_ok_tail hO
    have hi : i < ab_cnt g := ab_ok_head hO
    split at h
    · rename_i a1 n a2 a3 a4 hg
      have hg70 : g < 70 := ab_g70 (by rw [hg]; exact Nat.le_of_ble_eq_true rfl)
      have hws := ab_ws_at G M hg70 hi
      have hc : ab_cel G M g i = .inl (G.2.2.2 0, n, .inl (M.1 g i)) := by unfold ab_cel; rw [hg]; first | done | rfl
      rw [hc] at hws
      exact va_alen hC.1 hC.2.1 hW.2.1 hW.1 _ 0 hws rfl rfl hd (hn _ _ _ h p l e s m args below meth c G H locs lr hC hW hL (ab_ok_cons hO' trivial))
    · rename_i a1 n a2 a3 a4 hg
      have hg7 : g = 71 := ab_g7 (by rw [hg])
      subst hg7
      have hi0 : i = 0 := by have : ab_cnt 71 = 1 := by decide +kernel
                             omega
      subst hi0
      obtain ⟨-, ⟨cell, t1, t2, t3, t4, t5, t6, t7⟩⟩ := hW.2.2.2.2.1
      exact W.alen hC.1 hC.2.1 t1 t2 t5 rfl rfl hd (hn _ _ _ h p l e s m args below meth c G H locs lr hC hW hL (ab_ok_cons hO' trivial))
    · rename_i a1 n a2 a3 a4 hg
      have hg8 : g = 70 := ab_g8 (by rw [hg])
      subst hg8
      have hi0 : i = 0 := by have : ab_cnt 70 = 1 := by decide +kernel
                             omega
      subst hi0
      obtain ⟨⟨cell, t1, t2, t3, t4, t5, t6, t7⟩, -⟩ := hW.2.2.2.2.1
      exact W.alen hC.1 hC.2.1 t1 t2 t5 rfl rfl hd (hn _ _ _ h p l e s m args below meth c G H locs lr hC hW hL (ab_ok_cons hO' trivial))
    · exact h.elim
  · exact h.elim
end ABR
