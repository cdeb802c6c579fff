/-! ===== constructors: one instruction ===== -/
theorem ct_RA_fun {s : State} {a b : ClassId} {ty : FieldType} (h1 : va_RA s a ty) (h2 : va_RA s b ty) : a = b := by
  cases ty with
  | object C =>
    obtain ⟨_, _, _, _, _, e1⟩ := h1
    obtain ⟨_, _, _, _, _, e2⟩ := h2
    exact Option.some.inj (e1.symm.trans e2)
  | _ => exact Option.some.inj (Eq.trans (Eq.symm h1) h2)
theorem ct_same {D : va_G} {ca : Nat → ClassId} {s : State} {cA x : ClassId} {ty : FieldType} (k : Nat) (hK : va_K D vwCl (ct_ty ca) s) (hK2 : va_K D vwCl (ct_ty ca ++ [(cA, ty)]) s) (h : (ct_ty ca)[k]? = some (x, ty)) : cA = x := ct_RA_fun (hK2.2 5 (cA, ty) rfl).2 (hK.2 k _ h).2
section SYO
variable {p : Program} {l : Launch} {e : Env} {R : Room} {s : State} {m : MethodId} {args : Array Value} {below : List Frame} {meth : Method} {c : Code} {Q : State → Prop} {mi : ab_I}
variable {D : va_G} {ca : Nat → ClassId} {A : Nat → Prop} {al0 : List Nat} {nL pc n k : Nat} {ls st : List sv} {sw : List sc}
/-- the world grows -/
theorem sy_grow {ws w1 : va_W} {s1 : List sc} {lr : Array Slot} {vs : List Value} (hx : ∃ x, sy_al ws = al0 ++ x) (hw : sy_w ca sw ws) (hL : sy_lr (sy_al ws) lr nL ls) (hs : sy_fs (sy_al ws) st vs) (h1 : s1.length = w1.length) (h2 : ∀ (k : Nat) (c : sc), s1[k]? = some c → ∃ q, w1[k]? = some q ∧ sy_ce (sy_al (ws ++ w1)) ca c q.2) :
    (∃ x, sy_al (ws ++ w1) = al0 ++ x) ∧ sy_w ca (sw ++ s1) (ws ++ w1) ∧ sy_lr (sy_al (ws ++ w1)) lr nL ls ∧ sy_fs (sy_al (ws ++ w1)) st vs := by
  have e : sy_al (ws ++ w1) = sy_al ws ++ sy_al w1 := List.map_append
  refine ⟨?_, sy_w_app hw h1 h2, ?_, ?_⟩
  · obtain ⟨x, hx⟩ := hx
    exact ⟨x ++ sy_al w1, by rw [e, hx, List.append_assoc]⟩
  · rw [e]; exact sy_lr_app _ hL
  · rw [e]; exact sy_fs_app _ hs
theorem sy_grow1 {ws : va_W} {q : Nat} {en : va_E} {s1 : sc} {lr : Array Slot} {vs : List Value} {H : Heap} {locs : List Loc} (hx : ∃ x, sy_al ws = al0 ++ x) (I : ct_I D ca A s H locs (ws ++ [(q, en)])) (hw : sy_w ca sw ws) (hL : sy_lr (sy_al ws) lr nL ls) (hs : sy_fs (sy_al ws) st vs) (h2 : sy_ce (sy_al (ws ++ [(q, en)])) ca s1 en) :
    sy_St al0 D ca A s H locs nL lr (.ref q :: vs) ls ((3, sw.length) :: st) (sw ++ [s1]) := by
  obtain ⟨g1, g2, g3, g4⟩ := sy_grow (w1 := [(q, en)]) (s1 := [s1]) hx hw hL hs rfl (fun k c hk => by
    match k, hk with
    | 0, hk => cases hk; exact ⟨_, rfl, h2⟩
    | k + 1, hk => cases hk)
  refine ⟨_, g1, I, g2, g3, .ref q, vs, ?_, g4, rfl⟩
  show ((sy_al (ws ++ [(q, en)]))[sw.length]?).map Value.ref = some (.ref q)
  rw [hw.1, sy_al, List.map_append, List.getElem?_append_right (by rw [List.length_map]; exact Nat.le_refl _), List.length_map, Nat.sub_self]
  rfl
theorem syo_aload (hC : ab_Cx mi p s m args meth c) {len i q : Nat} (hd : (decode mi.2.1 pc = .ok (.aload i, 2) ∧ len = 2) ∨ ∃ k' : Fin 4, k'.val = i ∧ decode mi.2.1 pc = .ok (.aload_n k', 1) ∧ len = 1) (hl : ls[i]? = some (3, q)) (hn : sy_N p l e R s m args below meth c Q D ca A al0 nL (pc + len) ls ((3, q) :: st) sw n k) : sy_N p l e R s m args below meth c Q D ca A al0 nL pc ls st sw n k := by
  intro H locs lr vs ⟨ws, hx, I, hw, hL, hs⟩
  rcases hL.2.2.2 _ _ hl with h9 | ⟨-, x, hx1, hx2⟩
  · cases h9
  obtain ⟨a, ha, rfl⟩ := sy_x_ref hx1
  have hg := hn H locs lr (.ref a :: vs) ⟨ws, hx, I, hw, hL, _, _, hx1, hs, rfl⟩
  rcases hd with ⟨hd, rfl⟩ | ⟨k', hk', hd, rfl⟩
  · exact lv_aload hC.1 hC.2.1 hd hx2 hg
  · exact lv_aload_n hC.1 hC.2.1 hd hk' hx2 hg
theorem syo_iload (hC : ab_Cx mi p s m args meth c) {i : Fin 4} {v : sv} (hd : decode mi.2.1 pc = .ok (.iload_n i, 1)) (hl : ls[i.val]? = some v) (hv : Nat.ble v.1 1 = true) (hn : sy_N p l e R s m args below meth c Q D ca A al0 nL (pc + 1) ls (v :: st) sw n k) : sy_N p l e R s m args below meth c Q D ca A al0 nL pc ls st sw n k := by
  intro H locs lr vs ⟨ws, hx, I, hw, hL, hs⟩
  have hv' : v.1 ≤ 1 := Nat.le_of_ble_eq_true hv
  rcases hL.2.2.2 _ _ hl with h9 | ⟨-, x, hx1, hx2⟩
  · omega
  rw [sy_x_int hv] at hx1
  cases hx1
  exact lv_iload_n hC.1 hC.2.1 hd rfl hx2 (hn H locs lr _ ⟨ws, hx, I, hw, hL, _, _, sy_x_int hv, hs, rfl⟩)
theorem syo_const (hC : ab_Cx mi p s m args meth c) {len : Nat} {z : Int} {v : sv} (hd : (decode mi.2.1 pc = .ok (.iconst z, 1) ∧ Int32.ofInt z = sy_i v ∧ len = 1) ∨ (decode mi.2.1 pc = .ok (.bipush z, 2) ∧ (Int8.ofInt z).toInt32 = sy_i v ∧ len = 2) ∨ (decode mi.2.1 pc = .ok (.sipush z, 3) ∧ (Int16.ofInt z).toInt32 = sy_i v ∧ len = 3)) (hv : Nat.ble v.1 1 = true) (hn : sy_N p l e R s m args below meth c Q D ca A al0 nL (pc + len) ls (v :: st) sw n k) : sy_N p l e R s m args below meth c Q D ca A al0 nL pc ls st sw n k := by
  intro H locs lr vs ⟨ws, hx, I, hw, hL, hs⟩
  have hg := hn H locs lr (.int (sy_i v) :: vs) ⟨ws, hx, I, hw, hL, _, _, sy_x_int hv, hs, rfl⟩
  rcases hd with ⟨hd, hz, rfl⟩ | ⟨hd, hz, rfl⟩ | ⟨hd, hz, rfl⟩
  · exact lv_iconst hC.1 hC.2.1 hd hz hg
  · exact lv_bipush hC.1 hC.2.1 hd hz hg
  · exact lv_sipush hC.1 hC.2.1 hd hz hg
theorem syo_lconst (hC : ab_Cx mi p s m args meth c) {i : Fin 2} (hd : decode mi.2.1 pc = .ok (.lconst i, 1)) (hn : sy_N p l e R s m args below meth c Q D ca A al0 nL (pc + 1) ls ((2, i.val) :: st) sw n k) : sy_N p l e R s m args below meth c Q D ca A al0 nL pc ls st sw n k := by
  intro H locs lr vs ⟨ws, hx, I, hw, hL, hs⟩
  exact lv_lconst (v := lN i.val) hC.1 hC.2.1 hd rfl (hn H locs lr (.long (lN i.val) :: vs) ⟨ws, hx, I, hw, hL, _, _, rfl, hs, rfl⟩)
theorem syo_dup (hC : ab_Cx mi p s m args meth c) {v : sv} (hd : decode mi.2.1 pc = .ok (.dup, 1)) (hv : v.1 ≠ 2) (hn : sy_N p l e R s m args below meth c Q D ca A al0 nL (pc + 1) ls (v :: v :: st) sw n k) : sy_N p l e R s m args below meth c Q D ca A al0 nL pc ls (v :: st) sw n k := by
  intro H locs lr vs ⟨ws, hx, I, hw, hL, x, xs, h1, h2, h3⟩
  subst h3
  exact lv_dup hC.1 hC.2.1 hd (sy_x_cat h1 hv) (hn H locs lr _ ⟨ws, hx, I, hw, hL, x, _, h1, ⟨x, xs, h1, h2, rfl⟩, rfl⟩)
theorem syo_istore (hC : ab_Cx mi p s m args meth c) {i : Fin 4} {v : sv} (hd : decode mi.2.1 pc = .ok (.istore_n i, 1)) (hi : i.val < nL) (hv : Nat.ble v.1 1 = true) (hn : sy_N p l e R s m args below meth c Q D ca A al0 nL (pc + 1) (ls.set i.val v) st sw n k) : sy_N p l e R s m args below meth c Q D ca A al0 nL pc ls (v :: st) sw n k := by
  intro H locs lr vs ⟨ws, hx, I, hw, hL, x, xs, h1, h2, h3⟩
  subst h3
  have hv' : v.1 ≤ 1 := Nat.le_of_ble_eq_true hv
  rw [sy_x_int hv] at h1
  cases h1
  exact lv_istore_n hC.1 hC.2.1 hd rfl (sy_lr_has hL) hi rfl (fun lr2 h => hn H locs lr2 _ ⟨ws, hx, I, hw, sy_lr_put (fun _ h => h) hL (sy_x_int hv) (by omega) h, h2⟩)
theorem syo_astore (hC : ab_Cx mi p s m args meth c) {i : Fin 4} {q : Nat} (hd : decode mi.2.1 pc = .ok (.astore_n i, 1)) (hi : i.val < nL) (hn : sy_N p l e R s m args below meth c Q D ca A al0 nL (pc + 1) (ls.set i.val (3, q)) st sw n k) : sy_N p l e R s m args below meth c Q D ca A al0 nL pc ls ((3, q) :: st) sw n k := by
  intro H locs lr vs ⟨ws, hx, I, hw, hL, x, xs, h1, h2, h3⟩
  subst h3
  obtain ⟨a, ha, rfl⟩ := sy_x_ref h1
  exact lv_astore_n hC.1 hC.2.1 hd rfl (sy_lr_has hL) hi rfl (fun lr2 h => hn H locs lr2 _ ⟨ws, hx, I, hw, sy_lr_put (fun _ h => h) hL h1 (fun q => by cases q) h, h2⟩)
theorem syo_iinc (hC : ab_Cx mi p s m args meth c) {i x : Nat} (hd : decode mi.2.1 pc = .ok (.iinc i 1, 3)) (hi : i < nL) (hl : ls[i]? = some (0, x)) (hn : sy_N p l e R s m args below meth c Q D ca A al0 nL (pc + 3) (ls.set i (0, x + 1)) st sw n k) : sy_N p l e R s m args below meth c Q D ca A al0 nL pc ls st sw n k := by
  intro H locs lr vs ⟨ws, hx, I, hw, hL, hs⟩
  have hp := sy_lr_has hL
  have hm : ((i, .int (nI x)) : Nat × Value) ∈ sy_prs (sy_al ws) ls := sy_prs_mem.mpr ⟨_, hl, rfl⟩
  have hh : lv_has lr nL ((i, .int (nI x)) :: sy_prs (sy_al ws) ls) := ⟨hp.1, hp.2.1, fun q hq => (List.mem_cons.mp hq).elim (fun e => by rw [e]; exact hp.2.2 _ hm) (hp.2.2 q)⟩
  exact lv_iinc (k := 0) (v := nI (x + 1)) hC.1 hC.2.1 hd hh rfl (nI_succ x).symm hi rfl (fun lr2 h => hn H locs lr2 _ ⟨ws, hx, I, hw, sy_lr_put (fun _ h => List.mem_cons_of_mem _ h) hL rfl (fun q => by cases q) h, hs⟩)
theorem syo_goto (hC : ab_Cx mi p s m args meth c) {off : Int} {tgt : Nat} (hd : decode mi.2.1 pc = .ok (.goto off, 3)) (ht : (pc : Int) + off = (tgt : Int)) (hn : sy_N p l e R s m args below meth c Q D ca A al0 nL tgt ls st sw n k) : sy_N p l e R s m args below meth c Q D ca A al0 nL pc ls st sw n k := by
  intro H locs lr vs h
  exact lv_goto hC.1 hC.2.1 hd ht (hn H locs lr vs h)
theorem syo_icmp (hC : ab_Cx mi p s m args meth c) {off : Int} {tgt x y : Nat} (hd : decode mi.2.1 pc = .ok (.if_icmp .ge off, 3)) (ht : (pc : Int) + off = (tgt : Int)) (hx : x < 1000) (hy : y < 1000) (hn : sy_N p l e R s m args below meth c Q D ca A al0 nL (if y ≤ x then tgt else pc + 3) ls st sw n k) : sy_N p l e R s m args below meth c Q D ca A al0 nL pc ls ((0, y) :: (0, x) :: st) sw n k := by
  intro H locs lr vs ⟨ws, hx0, I, hw, hL, v1, xs, h1, ⟨v2, ys, h2, h3, h4⟩, h5⟩
  subst h4 h5
  cases h1
  cases h2
  refine lv_icmp_ge hC.1 hC.2.1 hd ht (fun h => ?_) (fun h => ?_)
  · have : y ≤ x := Nat.not_lt.mp fun q => nI_ge q (by omega) h
    rw [if_pos this] at hn
    exact hn H locs lr _ ⟨ws, hx0, I, hw, hL, h3⟩
  · have : ¬ y ≤ x := fun q => h (nI_le q (by omega))
    rw [if_neg this] at hn
    exact hn H locs lr _ ⟨ws, hx0, I, hw, hL, h3⟩
theorem syo_newa (hC : ab_Cx mi p s m args meth c) {at0 : ArrayType} {ty : FieldType} {kd N : Nat} {x : ClassId} {f : vp_A} (hd : decode mi.2.1 pc = .ok (.newarray at0, 2)) (hw0 : Cond.arrayClass ty ∈ ab_tb) (hty : newarray.typeOf at0 = ty) (hN : N < 1000) (hb : componentBytes ty ≤ 8) (hcl : (ct_ty ca)[kd]? = some (x, ty)) (hf : ∀ cA : ClassId, vp_cell cA f = arrV cA N (fun _ => defaultValue ty)) (hce : ∀ al : List Nat, sy_ce al ca (kd, N, []) (.inl (x, f))) (hc : n + 1 ≤ R.cells) (hk : k + N ≤ R.slots) (hn : sy_N p l e R s m args below meth c Q D ca A al0 nL (pc + 2) ls ((3, sw.length) :: st) (sw ++ [(kd, N, [])]) (n + 1) (k + N)) : sy_N p l e R s m args below meth c Q D ca A al0 nL pc ls ((0, N) :: st) sw n k := by
  intro H locs lr vs ⟨ws, hx, I, hw, hL, v, vs2, h1, h2, h3⟩
  subst h3
  cases h1
  have hb2 : N * componentBytes ty ≤ 536870912 := Nat.le_trans (Nat.mul_le_mul (Nat.le_of_lt hN) hb) (by decide)
  refine va_newa (a0 := f) hC.1 hC.2.1 (by rw [hty]; exact hC.2.2.2.2.2.1 _ hw0) hty I.2.1 I.1 I.2.2.1 I.2.2.2.1 I.2.2.2.2.1 hf (nI_pos (by omega)) (nI_clamp (by omega)) hb2 hc hk hd (fun q cA H1 hK hP hD hS => ?_)
  have hcA := ct_same kd I.2.1 hK hcl
  subst hcA
  exact hn H1 locs lr _ (sy_grow1 hx ⟨hP, I.2.1, hD, hS, I.2.2.2.2⟩ hw hL h2 (hce _))
theorem syo_newq (hC : ab_Cx mi p s m args meth c) {idx N : Nat} (hd : decode mi.2.1 pc = .ok (.anewarray idx, 3)) (hw0 : Cond.classLink mi.1.cls idx "PaperTrail$Course" ∈ ab_tb) (hN : N < 1000) (hc : n + 1 ≤ R.cells) (hk : k + N ≤ R.slots) (hn : sy_N p l e R s m args below meth c Q D ca A al0 nL (pc + 3) ls ((3, sw.length) :: st) (sw ++ [(4, N, [])]) (n + 1) (k + N)) : sy_N p l e R s m args below meth c Q D ca A al0 nL pc ls ((0, N) :: st) sw n k := by
  intro H locs lr vs ⟨ws, hx, I, hw, hL, v, vs2, h1, h2, h3⟩
  subst h3
  cases h1
  refine va_newq hC.1 hC.2.1 hC.2.2.2.2.1 (hC.2.2.2.2.2.1 _ hw0) I.2.2.2.2.2.2 I.2.1 I.1 I.2.2.1 I.2.2.2.1 I.2.2.2.2.1 (nI_pos (by omega)) (nI_clamp (by omega)) (by omega) hc hk hd (fun q cA H1 hK hP hD hS => ?_)
  have hcA : cA = ca 4 := ct_same 4 I.2.1 hK rfl
  subst hcA
  exact hn H1 locs lr _ (sy_grow1 hx ⟨hP, I.2.1, hD, hS, I.2.2.2.2⟩ hw hL h2 ⟨_, rfl, rfl⟩)
theorem syo_mna (hC : ab_Cx mi p s m args meth c) {idx N K : Nat} (hd : decode mi.2.1 pc = .ok (.multianewarray idx 2, 4)) (hw0 : Cond.classLink mi.1.cls idx "[[I" ∈ ab_tb) (hw1 : Cond.arrayClass .int ∈ ab_tb) (hN : N < 1000) (hK0 : K < 1000) (hc : n + 1 + N ≤ R.cells) (hk : k + N + N * K ≤ R.slots) (hn : sy_N p l e R s m args below meth c Q D ca A al0 nL (pc + 4) ls ((3, sw.length) :: st) (sw ++ ((3, N, [(sw.length + 1, 0)]) :: List.replicate N (0, K, []))) (n + 1 + N) (k + N + N * K)) : sy_N p l e R s m args below meth c Q D ca A al0 nL pc ls ((0, K) :: (0, N) :: st) sw n k := by
  intro H locs lr vs ⟨ws, hx, I, hw, hL, v1, xs, h1, ⟨v2, ys, h2, h3, h4⟩, h5⟩
  subst h4 h5
  cases h1
  cases h2
  refine va_mna (X := ws) (L := []) (f := fun _ => .inr (0, [])) (z := (K, .inl (fun _ => 0))) (ty := .int) (cy := ca 0) hC.1 hC.2.1 hC.2.2.2.2.1 (hC.2.2.2.2.2.1 _ hw0) I.2.2.2.2.2.1 (hC.2.2.2.2.2.1 _ hw1) (I.2.1.2 0 _ rfl).2 I.2.1 (by rw [show va_pl [] _ = [] from rfl, List.append_nil]; exact I.1) (by rw [show va_pl [] _ = [] from rfl, List.append_nil]; exact I.2.2.1) I.2.2.2.1 I.2.2.2.2.1 (nI_pos (by omega)) (nI_pos (by omega)) (nI_clamp (by omega)) (nI_clamp (by omega)) (by omega) (by show K * 4 ≤ _; omega) (by omega) rfl rfl (by omega) (by omega) ?_ hd (fun q r cA H1 hr _ hK hP hD hS => ?_)
  · intro cI
    exact arrV_new _ _ _
  have hcA : cA = ca 3 := ct_same 3 I.2.1 hK rfl
  subst hcA
  have hrows : va_pl ([] ++ (List.range N).map r) (vr_up (fun _ => .inr (0, [])) ((List.range N).map r) (.inl (ca 0, K, .inl (fun _ => 0)))) = ((List.range N).map r).map (fun a => ((a, .inl (ca 0, K, .inl (fun _ => 0))) : Nat × va_E)) := by
    rw [← vr_rows (fun _ _ h => by cases h)]
    rfl
  rw [hrows, List.append_assoc] at hP hD
  rw [List.singleton_append] at hP hD
  have hlen : ∀ j, j < N → (sy_al (ws ++ (q, .inl (ca 3, N, .inr (.inr (.inr (.inr (fun i => if i < N then some (r i) else none)))))) :: ((List.range N).map r).map (fun a => ((a, .inl (ca 0, K, .inl (fun _ => 0))) : Nat × va_E))))[sw.length + 1 + j]? = some (r j) := by
    intro j hj
    rw [hw.1, sy_al, List.map_append, List.getElem?_append_right (by rw [List.length_map]; omega), List.length_map, show ws.length + 1 + j - ws.length = j + 1 by omega, List.map_cons, List.getElem?_cons_succ, List.getElem?_map, List.getElem?_map, List.getElem?_map, List.getElem?_range hj]
    rfl
  obtain ⟨g1, g2, g3, g4⟩ := sy_grow (st := st) (s1 := (3, N, [(sw.length + 1, 0)]) :: List.replicate N (0, K, [])) hx hw hL h3 (w1 := (q, .inl (ca 3, N, .inr (.inr (.inr (.inr (fun i => if i < N then some (r i) else none)))))) :: ((List.range N).map r).map (fun a => ((a, .inl (ca 0, K, .inl (fun _ => 0))) : Nat × va_E))) (by rw [List.length_cons, List.length_cons, List.length_replicate, List.length_map, List.length_map, List.length_range]) (fun j d hj => by
    match j, hj with
    | 0, hj =>
      cases hj
      exact ⟨_, rfl, r, hlen, rfl⟩
    | j + 1, hj =>
      rw [List.getElem?_cons_succ] at hj
      have hjN : j < N := by
        have := (List.getElem?_eq_some_iff.mp hj).1
        rw [List.length_replicate] at this
        exact this
      rw [List.getElem?_replicate, if_pos hjN] at hj
      cases hj
      refine ⟨(r j, .inl (ca 0, K, .inl (fun _ => 0))), ?_, rfl⟩
      rw [List.getElem?_cons_succ, List.getElem?_map, List.getElem?_map, List.getElem?_range hjN]
      rfl)
  refine hn H1 locs lr _ ⟨_, g1, ⟨hP, I.2.1, hD, hS, I.2.2.2.2⟩, g2, g3, .ref q, ys, ?_, g4, rfl⟩
  show ((sy_al (ws ++ _))[sw.length]?).map Value.ref = some (.ref q)
  rw [hw.1, sy_al, List.map_append, List.getElem?_append_right (by rw [List.length_map]; exact Nat.le_refl _), List.length_map, Nat.sub_self]
  rfl
/-- a class's fields as they are when new -/
def sy_dok (ci : Nat) (ds : List sv) : Prop := ∃ (q : vw_C) (ty : Nat → FieldType) (fs : List Value), vwCl[ci]? = some q ∧ (∀ k, k < q.2.2 → parseFieldDescriptor (q.2.1 k).2.2.1 = some (ty k)) ∧ (∀ j, j < q.2.2 → defaultValue (ty j) = vp_V fs j) ∧ (∀ al : List Nat, sy_fs al ds fs) ∧ ds.length = q.2.2
theorem syo_new (hC : ab_Cx mi p s m args meth c) {idx ci : Nat} {ds : List sv} (hd : decode mi.2.1 pc = .ok (.new idx, 3)) (hds : sy_dok ci ds) (hw0 : ∀ q : vw_C, vwCl[ci]? = some q → Cond.classLink mi.1.cls idx q.1 ∈ ab_tb ∧ Cond.instantiable q.1 q.2.2 ∈ ab_tb ∧ Cond.initialized q.1 ∈ ab_tb) (hc : n + 1 ≤ R.cells) (hk : k + ds.length ≤ R.slots) (hn : sy_N p l e R s m args below meth c Q D ca A al0 nL (pc + 3) ls ((3, sw.length) :: st) (sw ++ [(5, ci, ds)]) (n + 1) (k + ds.length)) : sy_N p l e R s m args below meth c Q D ca A al0 nL pc ls st sw n k := by
  intro H locs lr vs ⟨ws, hx, I, hw, hL, hs⟩
  obtain ⟨q, ty, fs, hq, hty, hdf, hfs, hlen⟩ := hds
  obtain ⟨w1, w2, w3⟩ := hw0 q hq
  have ht := hC.2.2.2.2.2.1
  rw [hlen] at hk hn
  refine va_new (ci := ci) (fs := fs) (C := q.1) (T := q.2.1) (N := q.2.2) hC.1 hC.2.1 ht (ab_cls ci q hq).1 ty hty hC.2.2.2.2.1 (ht _ w1) (ht _ w2) (ht _ w3) I.2.1 I.1 I.2.2.1 I.2.2.2.1 I.2.2.2.2.1 hq hdf hc hk hd (fun a H1 hP hD hS => ?_)
  exact hn H1 locs lr _ (sy_grow1 hx ⟨hP, I.2.1, hD, hS, I.2.2.2.2⟩ hw hL hs ⟨_, hfs _, rfl⟩)
theorem syo_get (hC : ab_Cx mi p s m args meth c) {idx ci b q0 : Nat} {fs : List sv} {v : sv} (hd : decode mi.2.1 pc = .ok (.getfield idx, 3)) (hf : ab_okF mi.1.cls idx ci b) (hq : sw[q0]? = some (5, ci, fs)) (hv : fs[b]? = some v) (hn : sy_N p l e R s m args below meth c Q D ca A al0 nL (pc + 3) ls (v :: st) sw n k) : sy_N p l e R s m args below meth c Q D ca A al0 nL pc ls ((3, q0) :: st) sw n k := by
  intro H locs lr vs ⟨ws, hx, I, hw, hL, x, xs, h1, h2, h3⟩
  subst h3
  obtain ⟨a, ha, rfl⟩ := sy_x_ref h1
  obtain ⟨en, hen, gs, hgs, rfl⟩ := sy_w_at hw hq ha
  obtain ⟨y, hy, hvy⟩ := sy_fs_get hgs hv
  obtain ⟨q, hcl, hb, hl⟩ := hf
  have ht := hC.2.2.2.2.2.1
  exact va_get hC.1 hC.2.1 ht (ab_cls ci q hcl).1 hC.2.2.2.2.1 I.2.1 I.1 q0 hen hcl b hb (ht _ hl) (fun _ h9 => h9) hy hd (hn H locs lr _ ⟨ws, hx, I, hw, hL, y, xs, hvy, h2, rfl⟩)
theorem sy_setw {H1 : Heap} {locs1 : List Loc} {lr : Array Slot} {vs : List Value} {ws : va_W} {q0 a : Nat} {e0 e1 : va_E} {c1 : sc} (hx : ∃ x, sy_al ws = al0 ++ x) (I : ct_I D ca A s H1 locs1 (ws.set q0 (a, e1))) (hw : sy_w ca sw ws) (hL : sy_lr (sy_al ws) lr nL ls) (hs : sy_fs (sy_al ws) st vs) (h0 : ws[q0]? = some (a, e0)) (hc : sy_ce (sy_al ws) ca c1 e1) : sy_St al0 D ca A s H1 locs1 nL lr vs ls st (sw.set q0 c1) := by
  have e : sy_al (ws.set q0 (a, e1)) = sy_al ws := sy_al_set h0
  exact ⟨_, by rw [e]; exact hx, I, sy_w_set hw h0 hc, by rw [e]; exact hL, by rw [e]; exact hs⟩
/-- which values a field takes -/
def sy_tk (ty : FieldType) (t : Nat) : Prop := (t = 0 ∧ ty = .int) ∨ (t = 1 ∧ ty = .long) ∨ (t = 2 ∧ ∀ x : Nat, narrow ty (.ref x) = .ref x ∧ fits ty (.ref x) = true)
def sy_tv (t : Nat) (v : sv) : Bool := match t with
  | 0 => Nat.ble v.1 1
  | 1 => Nat.beq v.1 2
  | 2 => Nat.beq v.1 3
  | _ => false
theorem sy_tk_use {ty : FieldType} {t : Nat} {v : sv} {al : List Nat} {x : Value} (h : sy_tk ty t) (hv : sy_tv t v = true) (hx : sy_x al v = some x) : narrow ty x = x ∧ fits ty x = true := by
  rcases h with ⟨rfl, rfl⟩ | ⟨rfl, rfl⟩ | ⟨rfl, h⟩
  · rw [sy_x_int hv] at hx
    cases hx
    exact ⟨rfl, rfl⟩
  · obtain ⟨a, b⟩ := v
    have : a = 2 := Nat.eq_of_beq_eq_true hv
    subst this
    cases hx
    exact ⟨rfl, rfl⟩
  · obtain ⟨a, b⟩ := v
    have : a = 3 := Nat.eq_of_beq_eq_true hv
    subst this
    obtain ⟨y, -, rfl⟩ := sy_x_ref hx
    exact h y
theorem syo_put (hC : ab_Cx mi p s m args meth c) (hin : meth.name = "<init>") {idx ci b q0 t : Nat} {fs : List sv} {v : sv} (hd : decode mi.2.1 pc = .ok (.putfield idx, 3)) (hf : ab_okF mi.1.cls idx ci b) (hft : ∀ q : vw_C, vwCl[ci]? = some q → ((q.2.1 b).2.2.2 = true → (q.2.1 b).1 = mi.1.cls) ∧ ∃ ty, parseFieldDescriptor (q.2.1 b).2.2.1 = some ty ∧ sy_tk ty t) (hq : sw[q0]? = some (5, ci, fs)) (hb : b < fs.length) (hv : sy_tv t v = true) (hn : sy_N p l e R s m args below meth c Q D ca A al0 nL (pc + 3) ls st (sw.set q0 (5, ci, fs.set b v)) n k) : sy_N p l e R s m args below meth c Q D ca A al0 nL pc ls (v :: (3, q0) :: st) sw n k := by
  intro H locs lr vs ⟨ws, hx, I, hw, hL, x, xs, h1, ⟨y, ys, h2, h3, h4⟩, h5⟩
  subst h4 h5
  obtain ⟨a, ha, rfl⟩ := sy_x_ref h2
  obtain ⟨en, hen, gs, hgs, rfl⟩ := sy_w_at hw hq ha
  obtain ⟨q, hcl, hbq, hl⟩ := hf
  obtain ⟨hfin, ty, hty0, htk⟩ := hft q hcl
  obtain ⟨hna, hfi⟩ := sy_tk_use htk hv h1
  have ht := hC.2.2.2.2.2.1
  obtain ⟨hcw, ⟨ty0, hty⟩, hnm⟩ := ab_cls ci q hcl
  have go : ∀ (H1 : Heap) (locs1 : List Loc), va_P D vwCl (ws.set q0 (a, .inr (ci, gs.set b x))) H1 → va_D A (ws.set q0 (a, .inr (ci, gs.set b x))) → va_S A s.heap H1 locs1 → W p l e R s m args below meth c H1 locs1 n k Q (F0 m (pc + 3) lr ys) := fun H1 locs1 hP hD hS => hn H1 locs1 lr ys (sy_setw hx ⟨hP, I.2.1, hD, hS, I.2.2.2.2⟩ hw hL h3 hen ⟨_, sy_fs_set h1 b hgs, rfl⟩)
  have hb2 : b < gs.length := by rw [sy_fs_len hgs]; exact hb
  cases hfl : (q.2.1 b).2.2.2 with
  | false => exact va_put hC.1 hC.2.1 ht hcw ty0 hty hnm hC.2.2.2.2.1 I.2.1 I.1 I.2.2.1 I.2.2.2.1 q0 hen hcl b hbq (ht _ hl) (fun _ h9 => h9) hfl hty0 hna hfi hb2 hd go
  | true => exact va_putF hC.1 hC.2.1 ht hcw ty0 hty hnm hC.2.2.2.2.1 I.2.1 I.1 I.2.2.1 I.2.2.2.1 q0 hen hcl b hbq (ht _ hl) (fun _ h9 => h9) hfl hin (hfin hfl) hty0 hna hfi hb2 hd go
theorem syo_iast (hC : ab_Cx mi p s m args meth c) {q0 i N z : Nat} {fs : List sv} (hd : decode mi.2.1 pc = .ok (.iastore, 1)) (hq : sw[q0]? = some (0, N, fs)) (hi : i < N) (hN : N < 1000) (hn : sy_N p l e R s m args below meth c Q D ca A al0 nL (pc + 1) ls st (sw.set q0 (0, N, (i, 0) :: fs)) n k) : sy_N p l e R s m args below meth c Q D ca A al0 nL pc ls ((1, z) :: (0, i) :: (3, q0) :: st) sw n k := by
  intro H locs lr vs ⟨ws, hx, I, hw, hL, x, xs, h1, ⟨y, ys, h2, ⟨u, us, h3, h4, h5⟩, h6⟩, h7⟩
  subst h5 h6 h7
  cases h1
  cases h2
  obtain ⟨a, ha, rfl⟩ := sy_x_ref h3
  obtain ⟨en, hen, rfl⟩ := sy_w_at hw hq ha
  refine va_iast hC.1 hC.2.1 I.2.1 I.1 I.2.2.1 I.2.2.2.1 q0 0 hen rfl (nI_in hi (by omega)) hd (fun H1 locs1 hP hD hS => ?_)
  rw [nI_clamp (by omega)] at hP hD
  exact hn H1 locs1 lr _ (sy_setw hx ⟨hP, I.2.1, hD, hS, I.2.2.2.2⟩ hw hL h4 hen rfl)
theorem syo_aast (hC : ab_Cx mi p s m args meth c) {q0 q1 i N : Nat} {fs gs : List sv} (hd : decode mi.2.1 pc = .ok (.aastore, 1)) (hq : sw[q0]? = some (4, N, fs)) (hq1 : sw[q1]? = some (5, 1, gs)) (hi : i < N) (hN : N < 1000) (hn : sy_N p l e R s m args below meth c Q D ca A al0 nL (pc + 1) ls st (sw.set q0 (4, N, (i, q1) :: fs)) n k) : sy_N p l e R s m args below meth c Q D ca A al0 nL pc ls ((3, q1) :: (0, i) :: (3, q0) :: st) sw n k := by
  intro H locs lr vs ⟨ws, hx, I, hw, hL, x, xs, h1, ⟨y, ys, h2, ⟨u, us, h3, h4, h5⟩, h6⟩, h7⟩
  subst h5 h6 h7
  cases h2
  obtain ⟨a1, ha1, rfl⟩ := sy_x_ref h1
  obtain ⟨a, ha, rfl⟩ := sy_x_ref h3
  obtain ⟨en, hen, f, hf, rfl⟩ := sy_w_at hw hq ha
  obtain ⟨en1, hen1, vs1, hvs1, rfl⟩ := sy_w_at hw hq1 ha1
  refine va_astq (r := (RX1, TX1, 8)) hC.1 hC.2.1 I.2.1 I.1 I.2.2.1 I.2.2.2.1 q0 4 q1 1 hen rfl hen1 rfl (nI_in hi (by omega)) hd (fun H1 locs1 hP hD hS => ?_)
  rw [nI_clamp (by omega)] at hP hD
  exact hn H1 locs1 lr _ (sy_setw hx ⟨hP, I.2.1, hD, hS, I.2.2.2.2⟩ hw hL h4 hen ⟨_, ⟨f, a1, hf, ha1, rfl⟩, rfl⟩)
theorem syo_obj (hC : ab_Cx mi p s m args meth c) {idx q : Nat} (hd : decode mi.2.1 pc = .ok (.invokespecial idx, 3)) (hnl : mi.2.2.1 = nL) (w1 : Cond.methodLink mi.1.cls idx objectInit ∈ ab_tb) (w2 : Cond.instanceMethod objectInit ∈ ab_tb) (w3 : Cond.code objectInit ⟨#[0xb1]⟩ 1 none ∈ ab_tb) (hR : 1 ≤ R.frames) (hR2 : 12 ≤ R.locals) (hn : sy_N p l e R s m args below meth c Q D ca A al0 nL (pc + 3) ls [] sw n k) : sy_N p l e R s m args below meth c Q D ca A al0 nL pc ls [(3, q)] sw n k := by
  intro H locs lr vs ⟨ws, hx, I, hw, hL, x, xs, h1, h2, h3⟩
  have h2 : xs = [] := h2
  subst h2 h3
  obtain ⟨a, ha, rfl⟩ := sy_x_ref h1
  have ht := hC.2.2.2.2.2.1
  refine W.objInit hC.1 hC.2.1 hC.2.2.2.2.1 (ht _ w1) (ht _ w2) (ht _ w3) (g := F0 m pc lr [.ref a]) rfl (by rw [hC.2.2.2.1, hnl]; exact hL.2.1) rfl hd hR (by show 2 * 0 + 0 + 12 ≤ _; omega) ?_
  exact hn H locs lr [] ⟨ws, hx, I, hw, hL, rfl⟩
end SYO
