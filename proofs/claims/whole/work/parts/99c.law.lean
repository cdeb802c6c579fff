/-! ===== the law's own body: the same instructions, in the claim's room ===== -/
def R_law : String := "PaperTrailLaw"
def lw_P (b : Addr) (xs : List Int32) (args : Array Value) (s : State) : Prop := args = #[.ref b] ∧ s.IntsAt b xs ∧ xs.length ≤ 384 ∧ (Jvm.Cond.and given_1 narrow_1).before args s = true
def lw_Q (_ : Array Value) (s : State) (o : Outcome) (t : State) : Prop := o = .returned (some (.int 1)) ∧ Framed s o t [] 600000 7302250
def lw_Z (below : List Frame) (a : Array Value) (s : State) : State → Prop := fun t => ∃ o, t.status = .running ∧ Ended t below o ∧ lw_Q a s o t
/-- the law's own end, with 1 on the stack, nothing written that was there before, its room as the claim has it -/
theorem lw_ret {p : Program} {l : Launch} {e : Env} {s : State} {m : MethodId} {below : List Frame} {meth : Method} {c : Code} {b : Nat} (hx : p.tables.exec = Jvm.exec) (hb : c.code = code) (hr : meth.sig.returnType = ret) (hlocks : meth.locks = false) {pc : Nat} {H : Heap} {ls : Array Slot} (hdg : decode code pc = .ok (.ireturn, 1)) : W p l e room_1 s m #[Value.ref b] below meth c H [] 600000 7302250 (lw_Z below #[Value.ref b] s) (F0 m pc ls [.int 1]) := by
  intro T hT X
  obtain ⟨fs, hret, hrun, hended, hW, hframe⟩ := X.leave (v := some (.int 1)) (hlocks := hlocks) (fun h => by rw [hr] at h; cases h)
  have hmeth' : T.vm.method? m = some meth := X.method'
  refine ⟨T.setFrames fs, ?_, .returned (some (.int 1)), hrun, hended, rfl, ⟨_, rfl⟩, hW, hframe⟩
  jvm_step X.here [X.here.top, hx, hb, hdg, hmeth', hr, ret, narrow_b1]
  (try refine ⟨rfl, ?_⟩); (try refine ⟨rfl, ?_⟩)
  first | (intro acts; rw [hret _ acts rfl rfl rfl]) | rw [hret _ _ rfl rfl rfl]
  exact Steps.refl _
/-- what holds in the law's body -/
def lb_Cx (mi : ab_I) (p : Program) (s : State) (m : MethodId) (args : Array Value) (meth : Method) (c : Code) (G : ab_G) : Prop :=
  p.tables.exec = Jvm.exec ∧ c.code = mi.2.1 ∧ meth.sig.returnType = mi.2.2.2 ∧ c.maxLocals = mi.2.2.1 ∧ s.vm.findClass mi.1.cls = some m.cls ∧ (∀ w ∈ ab_tb, w.before args s = true) ∧ meth.locks = false ∧ (∀ n, n < 120 → s.heap.size ≤ G.2.2.1 n) ∧ ∃ b : Nat, args = #[Value.ref b]
/-- the law, at pc, comes to its end with true -/
def lb_At (mi : ab_I) (pc : Nat) (ls : ab_L) (st : List ab_V) (M : ab_M) : Prop :=
  ∀ (p : Program) (l : Launch) (e : Env) (s : State) (m : MethodId) (args : Array Value) (below : List Frame) (meth : Method) (c : Code) (G : ab_G) (H : Heap) (locs : List Loc) (lr : Array Slot),
    lb_Cx mi p s m args meth c G → ab_W0 G M s H locs → ab_lr G lr mi.2.2.1 ls → ab_ok ls st →
    W p l e room_1 s m args below meth c H locs 600000 7302250 (lw_Z below args s) (F0 m pc lr (st.map (ab_rv G)))
abbrev lb_N (mi : ab_I) (nx : ab_P) (pc : Nat) : Prop := ∀ (ls : ab_L) (st : List ab_V) (M : ab_M), nx ls st M → lb_At mi pc ls st M
section LBO
variable {mi : ab_I} {d pc : Nat} {K : ab_K} {nx tg : ab_P} {ls : ab_L} {st : List ab_V} {M : ab_M}
theorem lbo_iconst {n : Int} (hd : decode mi.2.1 pc = .ok (.iconst n, 1)) (hv : Int32.ofInt n = ab_cv n) (hr : ab_okV (.inl n)) (hn : lb_N mi nx (pc + 1)) (h : nx ls (.inl n :: st) M) : lb_At mi pc ls st M := by
  intro p l e s m args below meth c G H locs lr hC hW hL hO
  exact lv_iconst hC.1 hC.2.1 hd hv (hn _ _ _ h p l e s m args below meth c G H locs lr hC hW hL (ab_ok_cons hO hr))
theorem lbo_bipush {n : Int} (hd : decode mi.2.1 pc = .ok (.bipush n, 2)) (hv : (Int8.ofInt n).toInt32 = ab_cv n) (hr : ab_okV (.inl n)) (hn : lb_N mi nx (pc + 2)) (h : nx ls (.inl n :: st) M) : lb_At mi pc ls st M := by
  intro p l e s m args below meth c G H locs lr hC hW hL hO
  exact lv_bipush hC.1 hC.2.1 hd hv (hn _ _ _ h p l e s m args below meth c G H locs lr hC hW hL (ab_ok_cons hO hr))
theorem lbo_iload {k len : Nat} (hd : (decode mi.2.1 pc = .ok (.iload k, 2) ∧ len = 2) ∨ ∃ k' : Fin 4, k'.val = k ∧ decode mi.2.1 pc = .ok (.iload_n k', 1) ∧ len = 1) (hn : lb_N mi nx (pc + len)) (h : ab_ild k nx ls st M) : lb_At mi pc ls st M := by
  intro p l e s m args below meth c G H locs lr hC hW hL hO
  unfold ab_ild at h
  have key : ∀ v : ab_V, ab_gl ls k = some v → (∃ x, ab_rv G v = .int x) → nx ls (v :: st) M → W p l e room_1 s m args below meth c H locs 600000 7302250 (lw_Z below args s) (F0 m pc lr (st.map (ab_rv G))) := by
    intro v hv ⟨x, hx⟩ h
    have hl := hL.2.2 k v hv
    rw [hx] at hl
    have hgo := hn _ _ _ h p l e s m args below meth c G H locs lr hC hW hL (ab_ok_cons hO (hO.1 k v hv))
    rw [List.map_cons, hx] at hgo
    rcases hd with ⟨hd, rfl⟩ | ⟨k', hk, hd, rfl⟩
    · exact lv_iload hC.1 hC.2.1 hd hl hgo
    · exact lv_iload_n hC.1 hC.2.1 hd hk hl hgo
  split at h
  · rename_i n hv
    exact key _ hv ⟨_, rfl⟩ h
  · rename_i x hv
    exact key _ hv ⟨_, rfl⟩ h
  · exact h.elim
theorem lbo_aload {k len : Nat} (hd : (decode mi.2.1 pc = .ok (.aload k, 2) ∧ len = 2) ∨ ∃ k' : Fin 4, k'.val = k ∧ decode mi.2.1 pc = .ok (.aload_n k', 1) ∧ len = 1) (hn : lb_N mi nx (pc + len)) (h : ab_ald k nx ls st M) : lb_At mi pc ls st M := by
  intro p l e s m args below meth c G H locs lr hC hW hL hO
  unfold ab_ald at h
  split at h
  · rename_i x hv
    have hl := hL.2.2 k _ hv
    have hgo := hn _ _ _ h p l e s m args below meth c G H locs lr hC hW hL (ab_ok_cons hO (hO.1 k _ hv))
    rcases hd with ⟨hd, rfl⟩ | ⟨k', hk, hd, rfl⟩
    · exact lv_aload hC.1 hC.2.1 hd hl hgo
    · exact lv_aload_n hC.1 hC.2.1 hd hk hl hgo
  · exact h.elim
theorem lbo_istore {k len : Nat} (hd : (decode mi.2.1 pc = .ok (.istore k, 2) ∧ len = 2) ∨ ∃ k' : Fin 4, k'.val = k ∧ decode mi.2.1 pc = .ok (.istore_n k', 1) ∧ len = 1) (hk : k < mi.2.2.1) (hn : lb_N mi nx (pc + len)) (h : ab_ist k nx ls st M) : lb_At mi pc ls st M := by
  intro p l e s m args below meth c G H locs lr hC hW hL hO
  unfold ab_ist at h
  have key : ∀ (v : ab_V) (st : List ab_V), ab_ok ls (v :: st) → (∃ x, ab_rv G v = .int x) → nx (ab_s1 ls k v) st M → W p l e room_1 s m args below meth c H locs 600000 7302250 (lw_Z below args s) (F0 m pc lr ((v :: st).map (ab_rv G))) := by
    intro v st hO ⟨x, hx⟩ h
    rw [List.map_cons, hx]
    have go : ∀ lr' : Array Slot, lv_has lr' mi.2.2.1 ((k, Value.int x) :: (ab_prs G 0 ls).filter (fun q => !(q.1 == k) && !(q.1 + 1 == k && q.2.category == 2))) → W p l e room_1 s m args below meth c H locs 600000 7302250 (lw_Z below args s) (F0 m (pc + len) lr' (st.map (ab_rv G))) := by
      intro lr' hl'
      rw [← hx] at hl'
      exact hn _ _ _ h p l e s m args below meth c G H locs lr' hC hW (ab_lr_s1 hl') (ab_ok_s1 hO)
    rcases hd with ⟨hd, rfl⟩ | ⟨k', hk', hd, rfl⟩
    · exact lv_istore hC.1 hC.2.1 hd (ab_lr_has hL) hk rfl go
    · exact lv_istore_n hC.1 hC.2.1 hd hk' (ab_lr_has hL) hk rfl go
  split at h
  · exact key _ _ hO ⟨_, rfl⟩ h
  · exact key _ _ hO ⟨_, rfl⟩ h
  · exact h.elim
theorem lbo_iinc {k : Nat} {n : Int} (hd : decode mi.2.1 pc = .ok (.iinc k n, 3)) (hv : Int32.ofInt n = ab_cv n) (hk : k < mi.2.2.1) (hn : lb_N mi nx (pc + 3)) {v : ab_V} {x : Int32} (hg : ab_gl ls k = some v) (hx : ab_nv v = some x) (h : nx (ab_s1 ls k (vi (x + ab_cv n))) st M) : lb_At mi pc ls st M := by
  intro p l e s m args below meth c G H locs lr hC hW hL hO
  have hm : (k, Value.int x) ∈ ab_prs G 0 ls := (ab_prs_mem ls 0 _).mpr ⟨k, v, hg, by rw [Nat.zero_add, ab_nv_use hx]⟩
  obtain ⟨i, hi⟩ := List.getElem?_of_mem hm
  refine lv_iinc (v := x + ab_cv n) hC.1 hC.2.1 hd (ab_lr_has hL) hi (by rw [hv]) hk rfl fun lr' hl' => ?_
  exact hn _ _ _ h p l e s m args below meth c G H locs lr' hC hW (ab_lr_s1 (v := vi (x + ab_cv n)) hl') (ab_ok_s1 (ab_ok_cons hO trivial))
theorem lbo_bin {f : Int32 → Int32 → Int32} (row : ∀ (p : Program) (l : Launch) (e : Env) (s : State) (m : MethodId) (args : Array Value) (below : List Frame) (meth : Method) (c : Code) (H : Heap) (locs : List Loc) (lr : Array Slot) (Q : State → Prop) (rest : List Value) (x y : Int32), p.tables.exec = Jvm.exec → c.code = mi.2.1 → W p l e room_1 s m args below meth c H locs 600000 7302250 Q (F0 m (pc + 1) lr (.int (f x y) :: rest)) → W p l e room_1 s m args below meth c H locs 600000 7302250 Q (F0 m pc lr (.int y :: .int x :: rest)))
    (hn : lb_N mi nx (pc + 1)) (h : ab_bin f nx ls st M) : lb_At mi pc ls st M := by
  obtain ⟨a, b, rest, x, y, rfl, hx, hy, h⟩ := abo_bin2 h
  intro p l e s m args below meth c G H locs lr hC hW hL hO
  rw [List.map_cons, List.map_cons, ab_nv_use hx, ab_nv_use hy]
  exact row p l e s m args below meth c H locs lr _ _ x y hC.1 hC.2.1 (hn _ _ _ h p l e s m args below meth c G H locs lr hC hW hL (ab_ok_cons (ab_ok_tail (ab_ok_tail hO)) trivial))
theorem lbo_lcmp (hd : decode mi.2.1 pc = .ok (.lcmp, 1)) (hn : lb_N mi nx (pc + 1)) (h : ab_lcmp nx ls st M) : lb_At mi pc ls st M := by
  unfold ab_lcmp at h
  split at h
  · rename_i st y x rest
    intro p l e s m args below meth c G H locs lr hC hW hL hO
    refine W.lcmp hC.1 hC.2.1 hd ?_
    have hO' := ab_ok_tail (ab_ok_tail hO)
    by_cases h1 : x < y
    · rw [ab_lcmp_lt h1]
      exact hn _ _ _ (h.1 h1) p l e s m args below meth c G H locs lr hC hW hL (ab_ok_cons hO' (show ab_okV (.inl (-1)) by constructor <;> decide))
    · by_cases h2 : x = y
      · rw [ab_lcmp_eq h2]
        exact hn _ _ _ (h.2.1 h2) p l e s m args below meth c G H locs lr hC hW hL (ab_ok_cons hO' (show ab_okV (.inl 0) by constructor <;> decide))
      · have h3 : y < x := by
          rw [Int64.lt_iff_toInt_lt] at h1 ⊢
          rw [← Int64.toInt_inj] at h2
          omega
        rw [ab_lcmp_gt h3]
        exact hn _ _ _ (h.2.2 h3) p l e s m args below meth c G H locs lr hC hW hL (ab_ok_cons hO' (show ab_okV (.inl 1) by constructor <;> decide))
  · exact h.elim
theorem lbo_if2 {cd : ClassFile.Cond} {off : Int} {t : Nat} (hd : decode mi.2.1 pc = .ok (.if_icmp cd off, 3)) (ht : (pc : Int) + off = (t : Int)) (hj : lb_N mi tg t) (hn : lb_N mi nx (pc + 3)) (h : ab_if2 cd tg nx ls st M) : lb_At mi pc ls st M := by
  unfold ab_if2 at h
  split at h
  · rename_i b a rest
    intro p l e s m args below meth c G H locs lr hC hW hL hO
    have hO' := ab_ok_tail (ab_ok_tail hO)
    obtain ⟨x, y, hx, hy, h⟩ := ab_br_cp (ab_ok_head (ab_ok_tail hO)) (ab_ok_head hO) h
    rw [List.map_cons, List.map_cons, ab_nv_use hx, ab_nv_use hy]
    have kj : tg ls rest M → W p l e room_1 s m args below meth c H locs 600000 7302250 (lw_Z below args s) (F0 m t lr (rest.map (ab_rv G))) := fun q => hj _ _ _ q p l e s m args below meth c G H locs lr hC hW hL hO'
    have kn : nx ls rest M → W p l e room_1 s m args below meth c H locs 600000 7302250 (lw_Z below args s) (F0 m (pc + 3) lr (rest.map (ab_rv G))) := fun q => hn _ _ _ q p l e s m args below meth c G H locs lr hC hW hL hO'
    cases cd <;> simp only [ab_cp] at h
    · exact lv_icmp_eq hC.1 hC.2.1 hd ht (fun q => kj (h.1 q)) (fun q => kn (h.2 q))
    · exact lv_icmp_ne hC.1 hC.2.1 hd ht (fun q => kj (h.1 q)) (fun q => kn (h.2 (by first | exact q | exact Classical.not_not.mp q)))
    · exact lv_icmp_lt hC.1 hC.2.1 hd ht (fun q => kj (h.1 q)) (fun q => kn (h.2 (ab_ilt q)))
    · exact lv_icmp_ge hC.1 hC.2.1 hd ht (fun q => kj (h.1 q)) (fun q => kn (h.2 (ab_ile q)))
    · exact lv_icmp_gt hC.1 hC.2.1 hd ht (fun q => kj (h.1 q)) (fun q => kn (h.2 (ab_ilt q)))
    · exact lv_icmp_le hC.1 hC.2.1 hd ht (fun q => kj (h.1 q)) (fun q => kn (h.2 (ab_ile q)))
  · exact h.elim
theorem lbo_if0 {cd : ClassFile.Cond} {off : Int} {t : Nat} (hd : decode mi.2.1 pc = .ok (.ifCond cd off, 3)) (ht : (pc : Int) + off = (t : Int)) (hj : lb_N mi tg t) (hn : lb_N mi nx (pc + 3)) (h : ab_if0 cd tg nx ls st M) : lb_At mi pc ls st M := by
  unfold ab_if0 at h
  split at h
  · rename_i a rest
    intro p l e s m args below meth c G H locs lr hC hW hL hO
    have hO' := ab_ok_tail hO
    obtain ⟨x, y, hx, hy, h⟩ := ab_br_cp (ab_ok_head hO) (show ab_okV (.inl 0) by constructor <;> decide) h
    have hy0 : y = 0 := by cases hy; rfl
    subst hy0
    rw [List.map_cons, ab_nv_use hx]
    have kj : tg ls rest M → W p l e room_1 s m args below meth c H locs 600000 7302250 (lw_Z below args s) (F0 m t lr (rest.map (ab_rv G))) := fun q => hj _ _ _ q p l e s m args below meth c G H locs lr hC hW hL hO'
    have kn : nx ls rest M → W p l e room_1 s m args below meth c H locs 600000 7302250 (lw_Z below args s) (F0 m (pc + 3) lr (rest.map (ab_rv G))) := fun q => hn _ _ _ q p l e s m args below meth c G H locs lr hC hW hL hO'
    cases cd <;> simp only [ab_cp] at h
    · exact lv_if_eq hC.1 hC.2.1 hd ht (fun q => kj (h.1 q)) (fun q => kn (h.2 q))
    · exact lv_if_ne hC.1 hC.2.1 hd ht (fun q => kj (h.1 q)) (fun q => kn (h.2 (by first | exact q | exact Classical.not_not.mp q)))
    · exact lv_if_lt hC.1 hC.2.1 hd ht (fun q => kj (h.1 q)) (fun q => kn (h.2 (ab_ilt q)))
    · exact lv_if_ge hC.1 hC.2.1 hd ht (fun q => kj (h.1 q)) (fun q => kn (h.2 (ab_ile q)))
    · exact lv_if_gt hC.1 hC.2.1 hd ht (fun q => kj (h.1 q)) (fun q => kn (h.2 (ab_ilt q)))
    · exact lv_if_le hC.1 hC.2.1 hd ht (fun q => kj (h.1 q)) (fun q => kn (h.2 (ab_ile q)))
  · exact h.elim
theorem lbo_goto {off : Int} {t : Nat} (hd : decode mi.2.1 pc = .ok (.goto off, 3)) (ht : (pc : Int) + off = (t : Int)) (hj : lb_N mi tg t) (h : tg ls st M) : lb_At mi pc ls st M := by
  intro p l e s m args below meth c G H locs lr hC hW hL hO
  exact lv_goto hC.1 hC.2.1 hd ht (hj _ _ _ h p l e s m args below meth c G H locs lr hC hW hL hO)
theorem lbo_tsw {df lo hi : Int} {os : Array Int} {len : Nat} (hd : decode mi.2.1 pc = .ok (.tableswitch df lo hi os, len)) (hh : hi + 1 = lo + os.toList.length) (hlo : -32768 ≤ lo) (hhi : hi ≤ 32767) {jp : Int → ab_P} (hj : ∀ off : Int, off ∈ df :: os.toList → ∃ t : Nat, (pc : Int) + off = t ∧ lb_N mi (jp off) t)
    {v : ab_V} {x : Int32} (hv : ab_nv v = some x) (h : (x.toInt < lo ∨ lo + os.toList.length ≤ x.toInt → jp df ls st M) ∧ ab_sw x (fun o => jp o ls st M) lo os.toList) : lb_At mi pc ls (v :: st) M := by
  intro p l e s m args below meth c G H locs lr hC hW hL hO
  rw [List.map_cons, ab_nv_use hv]
  have hO' := ab_ok_tail hO
  by_cases h1 : x.toInt < lo ∨ lo + os.toList.length ≤ x.toInt
  · obtain ⟨t, ht, hN⟩ := hj df List.mem_cons_self
    exact lv_tableOut hC.1 hC.2.1 hd (by omega) ht (hN _ _ _ (h.1 h1) p l e s m args below meth c G H locs lr hC hW hL hO')
  · have hi : (x.toInt - lo).toNat < os.toList.length := by omega
    obtain ⟨o, ho⟩ : ∃ o, os.toList[(x.toInt - lo).toNat]? = some o := ⟨_, List.getElem?_eq_getElem hi⟩
    obtain ⟨t, ht, hN⟩ := hj o (List.mem_cons_of_mem _ (List.mem_of_getElem? ho))
    refine lv_tableIn hC.1 hC.2.1 hd (by omega) (by omega) (by rw [← Array.getElem?_toList]; exact ho) ht (hN _ _ _ (ab_sw_at os.toList lo h.2 _ o ho ?_) p l e s m args below meth c G H locs lr hC hW hL hO')
    apply Int32.toInt_inj.mp
    rw [ab_cv_toInt ⟨by omega, by omega⟩]
    omega
theorem lbo_iald (hd : decode mi.2.1 pc = .ok (.iaload, 1)) (hn : lb_N mi nx (pc + 1)) (h : ab_iald nx ls st M) : lb_At mi pc ls st M := by
  unfold ab_iald at h
  split at h
  · rename_i v g i rest
    intro p l e s m args below meth c G H locs lr hC hW hL hO
    have hO' := ab_ok_tail (ab_ok_tail hO)
    have hi : i < ab_cnt g := ab_ok_head (ab_ok_tail hO)
    have hlen := ab_gn g
    obtain ⟨h1, h2, h3, h4, h5, h6, h7, h8, h9⟩ := hW
    have hW : ab_W0 G M s H locs := ⟨h1, h2, h3, h4, h5, h6, h7, h8, h9⟩
    split at h
    · rename_i a1 n a2 a3 a4 hg
      have hlen : n < 1000 := by rw [hg] at hlen; exact hlen
      obtain ⟨j, hj, hjn, h⟩ := ab_ix_use (G := G) h
      have hg70 : g < 70 := ab_g70 (by rw [hg]; exact Nat.le_of_ble_eq_true rfl)
      rw [List.map_cons, List.map_cons, hj]
      have hws := ab_ws_at G M hg70 hi
      have hc : ab_cel G M g i = .inl (G.2.2.2 0, n, .inl (M.1 g i)) := by unfold ab_cel; rw [hg]; first | done | rfl
      rw [hc] at hws
      refine va_iald hC.1 hC.2.1 h2 h1 _ 0 hws rfl (vp_in_nI hjn (by omega)) hd ?_
      rw [nI_clamp (by omega)]
      exact hn _ _ _ h p l e s m args below meth c G H locs lr hC hW hL (ab_ok_cons hO' trivial)
    · rename_i a1 n a2 a3 a4 hg
      obtain ⟨j, hj, hjn, h⟩ := ab_ix_use (G := G) h
      have hg70 : g < 70 := ab_g70 (by rw [hg]; exact Nat.le_of_ble_eq_true rfl)
      rw [List.map_cons, List.map_cons, hj]
      have hws := ab_ws_at G M hg70 hi
      have hc : ab_cel G M g i = .inl (G.2.2.2 0, (if i = 4 then 0 else 80), .inl (M.1 g i)) := by unfold ab_cel; rw [hg]; first | done | rfl
      rw [hc] at hws
      have hj80 : j < 80 := by split at hjn <;> omega
      refine va_iald hC.1 hC.2.1 h2 h1 _ 0 hws rfl (vp_in_nI hjn (by split <;> omega)) hd ?_
      rw [nI_clamp (by omega)]
      exact hn _ _ _ h p l e s m args below meth c G H locs lr hC hW hL (ab_ok_cons hO' trivial)
    · rename_i a1 n a2 a3 a4 hg
      obtain ⟨j, hj, hjn, h⟩ := ab_ix_use (G := G) h
      have hg7 : g = 71 := ab_g7 (by rw [hg])
      subst hg7
      have hi0 : i = 0 := by have : ab_cnt 71 = 1 := by decide +kernel
                             omega
      subst hi0
      rw [List.map_cons, List.map_cons, hj]
      obtain ⟨-, ⟨cell, t1, t2, t3, t4, t5, t6, t7⟩⟩ := h5
      have hX := h7.2.2.2
      have hin := vp_in_nI hjn hX
      refine W.iald (v := .int (M.1 71 0 j)) hC.1 hC.2.1 t1 t2 t3 (fun q => hin (q.elim Or.inl (fun q => Or.inr (Nat.le_trans t4 q)))) (by rw [nI_clamp (by omega)]; exact t6 j hjn) rfl rfl hd ?_
      exact hn _ _ _ h p l e s m args below meth c G H locs lr hC hW hL (ab_ok_cons hO' trivial)
    · rename_i a1 n a2 a3 a4 hg
      obtain ⟨j, hj, hjn, h⟩ := ab_ix_use (G := G) h
      have hg8 : g = 70 := ab_g8 (by rw [hg])
      subst hg8
      have hi0 : i = 0 := by have : ab_cnt 70 = 1 := by decide +kernel
                             omega
      subst hi0
      rw [List.map_cons, List.map_cons, hj]
      obtain ⟨⟨cell, t1, t2, t3, t4, t5, t6, t7⟩, -⟩ := h5
      have hin := vp_in_nI hjn (by omega)
      refine W.iald (v := .int (M.1 70 0 j)) hC.1 hC.2.1 t1 t2 t3 (fun q => hin (q.elim Or.inl (fun q => Or.inr (Nat.le_trans t4 q)))) (by rw [nI_clamp (by omega)]; exact t6 j hjn) rfl rfl hd ?_
      exact hn _ _ _ h p l e s m args below meth c G H locs lr hC hW hL (ab_ok_cons hO' trivial)
    · exact h.elim
  · exact h.elim
theorem lbo_alen (hd : decode mi.2.1 pc = .ok (.arraylength, 1)) (hn : lb_N mi nx (pc + 1)) (h : ab_alen nx ls st M) : lb_At mi pc ls st M := by
  unfold ab_alen at h
  split at h
  · rename_i st g i rest
    intro p l e s m args below meth c G H locs lr hC hW hL hO
    have hO' := ab_ok_tail hO
    have hi : i < ab_cnt g := ab_ok_head hO
    split at h
    · rename_i a1 n a2 a3 a4 hg
      have hg70 : g < 70 := ab_g70 (by rw [hg]; exact Nat.le_of_ble_eq_true rfl)
      have hws := ab_ws_at G M hg70 hi
      have hc : ab_cel G M g i = .inl (G.2.2.2 0, n, .inl (M.1 g i)) := by unfold ab_cel; rw [hg]; first | done | rfl
      rw [hc] at hws
      exact va_alen hC.1 hC.2.1 hW.2.1 hW.1 _ 0 hws rfl rfl hd (hn _ _ _ h p l e s m args below meth c G H locs lr hC hW hL (ab_ok_cons hO' trivial))
    · rename_i a1 n a2 a3 a4 hg
      have hg7 : g = 71 := ab_g7 (by rw [hg])
      subst hg7
      have hi0 : i = 0 := by have : ab_cnt 71 = 1 := by decide +kernel
                             omega
      subst hi0
      obtain ⟨-, ⟨cell, t1, t2, t3, t4, t5, t6, t7⟩⟩ := hW.2.2.2.2.1
      exact W.alen hC.1 hC.2.1 t1 t2 t5 rfl rfl hd (hn _ _ _ h p l e s m args below meth c G H locs lr hC hW hL (ab_ok_cons hO' trivial))
    · rename_i a1 n a2 a3 a4 hg
      have hg8 : g = 70 := ab_g8 (by rw [hg])
      subst hg8
      have hi0 : i = 0 := by have : ab_cnt 70 = 1 := by decide +kernel
                             omega
      subst hi0
      obtain ⟨⟨cell, t1, t2, t3, t4, t5, t6, t7⟩, -⟩ := hW.2.2.2.2.1
      exact W.alen hC.1 hC.2.1 t1 t2 t5 rfl rfl hd (hn _ _ _ h p l e s m args below meth c G H locs lr hC hW hL (ab_ok_cons hO' trivial))
    · exact h.elim
  · exact h.elim
end LBO
