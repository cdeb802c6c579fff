/-! ===== from the law's entry to its loop ===== -/
theorem ws_ins : ∀ (c : Nat) (q : vw_C), vwCl[c]? = some q → Cond.instantiable q.1 q.2.2 ∈ ab_tb
  | 0, q, h => by cases h; exact sy_ci0.1
  | 1, q, h => by cases h; exact sy_ci1.1
  | 2, q, h => by cases h; exact sy_ci2.1
  | 3, q, h => by cases h; exact sy_ci3.1
  | 4, q, h => by cases h; exact sy_ci4.1
  | 5, q, h => by cases h; exact sy_ci5.1
  | 6, q, h => by cases h; exact sy_ci6.1
  | 7, q, h => by cases h; exact sy_ci7.1
  | 8, q, h => by cases h; exact sy_ci8.1
  | 9, q, h => by cases h; exact sy_ci9.1
  | n + 10, q, h => by simp [vwCl] at h
theorem ws_K {args : Array Value} {s : State} (hts : ∀ w ∈ ab_tb, w.before args s = true) : ∃ D : va_G, ∀ (c : Nat) (q : vw_C), vwCl[c]? = some q → u_Kn s q.1 q.2.1 q.2.2 (D.1 c) (D.2 c) := by
  have h : ∀ c : Nat, ∃ D : ClassId × (Nat → Nat), ∀ q : vw_C, vwCl[c]? = some q → u_Kn s q.1 q.2.1 q.2.2 D.1 D.2 := by
    intro c
    cases hq : vwCl[c]? with
    | none => exact ⟨(0, fun _ => 0), fun q h => by cases h⟩
    | some q =>
      obtain ⟨cC, iS, hk⟩ := u_known hts (ab_cls c q hq).1 (hts _ (ws_ins c q hq))
      exact ⟨(cC, iS), fun q' h => by cases h; exact hk⟩
  obtain ⟨f, hf⟩ := Classical.axiomOfChoice h
  exact ⟨(fun c => (f c).1, fun c => (f c).2), hf⟩
theorem ws_arr {s : State} {cA comp : ClassId} {k : Class} {ty : FieldType} (h1 : s.vm.classes[cA]? = some k) (h2 : k.kind = .array comp ty) : ArrOfT s cA ty := fun N z => ⟨(fun k h => by cases h), k, h1, comp, h2⟩
theorem ws_ca {args : Array Value} {s : State} (hts : ∀ w ∈ ab_tb, w.before args s = true) (hA : va_AOA .int s) (hO : va_AO "PaperTrail$Course" s) : ∃ ca : Nat → ClassId, ∀ (k : Nat) (q : ClassId × FieldType), (ct_ty ca)[k]? = some q → ArrOfT s q.1 q.2 ∧ va_RA s q.1 q.2 := by
  obtain ⟨c0, k0, p0, f0, g0, h0⟩ := Cond.arrayClass_spec (hts _ sy_ac0)
  obtain ⟨c1, k1, p1, f1, g1, h1⟩ := Cond.arrayClass_spec (hts _ sy_ac1)
  obtain ⟨c2, k2, p2, f2, g2, h2⟩ := Cond.arrayClass_spec (hts _ sy_ac2)
  obtain ⟨p3, c3, k3, -, -, g3, h3, f3⟩ := va_AOA.spec hA
  obtain ⟨p4, c4, k4, e4, -, g4, h4, f4⟩ := Cond.arrayOver_spec hO
  refine ⟨fun n => [c0, c1, c2, c3, c4].getD n 0, fun k q hk => ?_⟩
  match k, hk with
  | 0, hk => cases hk; exact ⟨ws_arr g0 h0, f0⟩
  | 1, hk => cases hk; exact ⟨ws_arr g1 h1, f1⟩
  | 2, hk => cases hk; exact ⟨ws_arr g2 h2, f2⟩
  | 3, hk => cases hk; exact ⟨ws_arr g3 h3, f3⟩
  | 4, hk => cases hk; exact ⟨ws_arr g4 h4, k4, p4, g4, h4, e4, f4⟩
  | k + 5, hk => cases hk
theorem ws_pm : ∀ n, n < 120 → sy_pm.getD n 0 < 120 := by decide +kernel
theorem ws_pmi : ∀ n, n < 120 → ∀ k, k < 120 → sy_pm.getD n 0 = sy_pm.getD k 0 → n = k := by decide +kernel
theorem ws_ad {D : va_G} {ca : Nat → ClassId} {ws : va_W} {fa b n : Nat} (hw : sy_w ca sy_w2 ws) (hn : n < 120) : ∃ e, ws[sy_pm.getD n 0]? = some ((finG (sy_al ws) ca D fa b).2.2.1 n, e) := by
  have hl : ws.length = 120 := hw.1.symm.trans (by decide +kernel)
  have hp := ws_pm n hn
  obtain ⟨q, hq⟩ : ∃ q, ws[sy_pm.getD n 0]? = some q := ⟨_, List.getElem?_eq_getElem (by rw [hl]; exact hp)⟩
  refine ⟨q.2, ?_⟩
  have : (sy_al ws)[sy_pm.getD n 0]? = some q.1 := by rw [List.getElem?_map, hq]; rfl
  rw [finG_at hn, List.getD_eq_getElem?_getD (l := sy_al ws), this, hq]
  rfl
theorem ws_at {G : ab_G} {M : ab_M} {k : Nat} {q : Nat × va_E} (h : (ab_ws G M)[k]? = some q) : k < 120 ∧ q = (G.2.2.1 k, ab_cel G M (ab_pg k) (ab_pi k)) := by
  unfold ab_ws at h
  rw [List.getElem?_map] at h
  by_cases hk : k < 120
  · rw [List.getElem?_range hk] at h
    exact ⟨hk, (Option.some.inj h).symm⟩
  · rw [List.getElem?_eq_none (by rw [List.length_range]; omega)] at h
    cases h
/-- at the loop's head -/
theorem ws_end {p : Program} {e : Env} {s : State} {m : MethodId} {below : List Frame} {meth : Method} {c : Code} {l : Launch} {b L fa : Nat} {xs : Nat → Int32} {D : va_G} {ca : Nat → ClassId} (hL : L ≤ 384) (hC : ab_Cx miL_law p s m #[Value.ref b] meth c) (hX : va_X b L xs s s.heap) (hT : va_T .int fa 6 (fun j => .int (nI (fac j))) (fun q => s.heap.size ≤ q) s s.heap) (hZ : va_Z "PaperTrail$Odds" "FACTORIALS" "[I" (.ref fa) (fun q => s.heap.size ≤ q) s s.heap) :
    sy_N p l e room_1 s m #[Value.ref b] below meth c (lw_Z below #[Value.ref b] s) D ca (fun q => s.heap.size ≤ q) [] 4 18 [(5, b), (3, 0), (3, 100), (0, 0)] [] sy_w2 120 2668 := by
  intro H locs lr vs ⟨ws, hx, I, hw, hlr, hs⟩
  have hs : vs = [] := hs
  subst hs
  refine W.widen (k := 600000) (n := 7302250) (by omega) (by omega) ?_
  refine va_forget (fun q hq => I.2.2.2.1.2.2 q hq) ?_
  obtain ⟨hP, hK, hD, hS, -, -, -⟩ := I
  have hfa : fa < s.heap.size := by
    obtain ⟨cell, h1, -⟩ := hT
    exact (Array.getElem?_eq_some_iff.mp h1).1
  have hbl : b < s.heap.size := by
    obtain ⟨cell, h1, -⟩ := hX
    exact (Array.getElem?_eq_some_iff.mp h1).1
  have hbig : ∀ n, n < 120 → s.heap.size ≤ (finG (sy_al ws) ca D fa b).2.2.1 n := fun n hn => by
    obtain ⟨en, hen⟩ := ws_ad (D := D) (fa := fa) (b := b) hw hn
    exact hD.2 _ _ hen
  have hAs : ∀ q, ab_A (finG (sy_al ws) ca D fa b) q → s.heap.size ≤ q := fun q ⟨n, hn, hq⟩ => by rw [hq]; exact hbig n hn
  have hold : ∀ a : Nat, a < s.heap.size → H[a]? = s.heap[a]? := fun a ha => hS.2.1 a ha (fun q => absurd ha (Nat.not_lt.mpr q))
  have hT1 : va_T .int fa 6 (fun j => .int (nI (fac j))) (ab_A (finG (sy_al ws) ca D fa b)) s H := (hT.kept (fun a ha _ => hold a ha)).narrow hAs
  have hT2 : va_T .int b L (fun j => .int (xs j)) (ab_A (finG (sy_al ws) ca D fa b)) s H := by
    obtain ⟨scr, x1, x2, x3, x4, x5⟩ := hX
    exact ⟨scr, (hold b hbl).trans x1, x2, x3, by omega, by rw [x4], x5, fun q => absurd hbl (Nat.not_lt.mpr (hAs b q))⟩
  have hW0 : ab_W0 (finG (sy_al ws) ca D fa b) (fstM L xs) s H [] := by
    refine ⟨fun k q hk => ?_, hK, ⟨fun i j x y hi hj hxy => ?_, fun k q hk => ?_⟩, ⟨hS.1, fun a h1 _ => hold a h1, fun _ h => by cases h⟩, ⟨hT1, hT2⟩, hZ.narrow hAs, fstX hL xs, hfa, hbl⟩
    · obtain ⟨h1, rfl⟩ := ws_at hk
      exact fin_at hw hP k h1
    · obtain ⟨h1, rfl⟩ := ws_at hi
      obtain ⟨h2, rfl⟩ := ws_at hj
      obtain ⟨e1, d1⟩ := ws_ad (D := D) (fa := fa) (b := b) hw h1
      obtain ⟨e2, d2⟩ := ws_ad (D := D) (fa := fa) (b := b) hw h2
      exact ws_pmi i h1 j h2 (hD.1 _ _ _ _ d1 d2 hxy)
    · obtain ⟨h1, rfl⟩ := ws_at hk
      exact ⟨k, h1, rfl⟩
  have hCx : lb_Cx miL_law p s m #[Value.ref b] meth c (finG (sy_al ws) ca D fa b) := ⟨hC.1, hC.2.1, hC.2.2.1, hC.2.2.2.1, hC.2.2.2.2.1, hC.2.2.2.2.2.1, hC.2.2.2.2.2.2, hbig, b, rfl⟩
  have loc : ∀ (k : Nat) (v : sv), [(5, b), (3, 0), (3, 100), (0, 0)][k]? = some v → v.1 ≠ 9 → lr[k]? = some (.val (sy_v (sy_al ws) v)) := fun k v hk h9 => by
    rcases hlr.2.2.2 k v hk with h | ⟨-, x, h1, h2⟩
    · exact absurd h h9
    · rw [h2, sy_v_of h1]
  have hlr2 : ab_lr (finG (sy_al ws) ca D fa b) lr 4 [some (vr 71 0), some (vr 0 0), some (vr 49 0), some (vi (nI 0))] := by
    refine ⟨hlr.2.1, hlr.2.2.1, fun k v hk => ?_⟩
    match k, hk with
    | 0, hk => cases hk; exact loc 0 (5, b) rfl (show (5 : Nat) ≠ 9 by decide)
    | 1, hk => cases hk; exact loc 1 (3, 0) rfl (by decide)
    | 2, hk => cases hk; exact loc 2 (3, 100) rfl (by decide)
    | 3, hk => cases hk; exact loc 3 (0, 0) rfl (by decide)
    | k + 4, hk => cases hk
  have hok : ab_ok [some (vr 71 0), some (vr 0 0), some (vr 49 0), some (vi (nI 0))] [] := by
    refine ⟨fun k v hk => ?_, fun v hv => by cases hv⟩
    match k, hk with
    | 0, hk => cases hk; show 0 < ab_cnt 71; decide +kernel
    | 1, hk => cases hk; show 0 < ab_cnt 0; decide +kernel
    | 2, hk => cases hk; show 0 < ab_cnt 49; decide +kernel
    | 3, hk => cases hk; trivial
    | k + 4, hk => cases hk
  exact lb_first hL p l e s m #[Value.ref b] below meth c (finG (sy_al ws) ca D fa b) H [] lr hCx hW0 hlr2 hok
/-- what holds at the law's entry -/
def lw_At (p : Program) (s : State) (m : MethodId) (meth : Method) (c : Code) (b L : Nat) (xs : Nat → Int32) : Prop :=
  p.tables.exec = Jvm.exec ∧ c.code = code ∧ meth.sig.returnType = ret ∧ c.maxLocals = 4 ∧ s.vm.findClass R_law = some m.cls ∧ (∀ w ∈ lw_tbl, w.before #[Value.ref b] s = true) ∧ va_X b L xs s s.heap ∧ b < s.heap.size ∧ meth.locks = false ∧ (Jvm.Cond.and given_1 narrow_1).before #[Value.ref b] s = true
abbrev ws_F : Term := .static "PaperTrail$Odds" "FACTORIALS" "[I"
theorem ws_fac {b : Nat} {s : State} (hgv : (Jvm.Cond.and given_1 narrow_1).before #[Value.ref b] s = true) : ∃ fa : Nat, ws_F.eval #[Value.ref b] s none [] s = some (.ref fa) ∧ va_T .int fa 6 (fun j => .int (nI (fac j))) (fun q => s.heap.size ≤ q) s s.heap := by
  have hs := flat_of_before _ hgv
  refine va_Tof (by decide) (hs _ (by decide +kernel)) (va_eqv (u := .int 6) (hs _ (by decide +kernel)) rfl) (fun j hj => ?_) (fun a ha => Nat.not_le.mpr ha)
  match j, hj with
  | 0, _ => exact va_eqv (u := .int 1) (hs (Cond.eq (Term.elem ws_F (.int 0)) (.int 1)) (by decide +kernel)) rfl
  | 1, _ => exact va_eqv (u := .int 1) (hs (Cond.eq (Term.elem ws_F (.int 1)) (.int 1)) (by decide +kernel)) rfl
  | 2, _ => exact va_eqv (u := .int 2) (hs (Cond.eq (Term.elem ws_F (.int 2)) (.int 2)) (by decide +kernel)) rfl
  | 3, _ => exact va_eqv (u := .int 6) (hs (Cond.eq (Term.elem ws_F (.int 3)) (.int 6)) (by decide +kernel)) rfl
  | 4, _ => exact va_eqv (u := .int 24) (hs (Cond.eq (Term.elem ws_F (.int 4)) (.int 24)) (by decide +kernel)) rfl
  | 5, _ => exact va_eqv (u := .int 120) (hs (Cond.eq (Term.elem ws_F (.int 5)) (.int 120)) (by decide +kernel)) rfl
  | j + 6, hj => exact absurd hj (by omega)
theorem ws_y9 : sy_okY "PaperTrailLaw" 9 102 0 := sy_cy102.full (mt_1 (List.mem_of_getElem? (i := 17) rfl) rfl)
theorem ws_y10 : sy_okY "PaperTrailLaw" 12 160 0 := sy_cy160.full (mt_5 (List.mem_of_getElem? (i := 93) rfl) rfl)
set_option maxRecDepth 100000 in
theorem whole_start {p : Program} {e : Env} {s : State} {m : MethodId} {below : List Frame} {meth : Method} {c : Code} (l : Launch) {b L : Nat} {xs : Nat → Int32} (hL : L ≤ 384) (C0 : lw_At p s m meth c b L xs) : W p l e room_1 s m #[Value.ref b] below meth c s.heap [] 0 0 (lw_Z below #[Value.ref b] s) (entryFrame m ([Value.ref b] : List Value).toArray 4) := by
  obtain ⟨hx, hb, hr, hml, hown, hts, hX, hbl, hlk, hgv⟩ := C0
  have htb : ∀ w ∈ ab_tb, w.before #[Value.ref b] s = true := fun w h => hts w (List.mem_filter.mp h).1
  have hC : ab_Cx miL_law p s m #[Value.ref b] meth c := ⟨hx, hb, hr, hml, hown, htb, hlk⟩
  have hAOA : va_AOA .int s := va_AOA.of (hts (.arrayOver (.array .int)) (List.mem_append_right _ (show _ ∈ tables_1 from List.mem_append_left _ ((List.mem_of_getElem? (i := 30) rfl : _ ∈ tables_1_1)))))
  have hAO : va_AO "PaperTrail$Course" s := va_AO.of (hts (.arrayOver (.object "PaperTrail$Course")) (List.mem_append_right _ (show _ ∈ tables_1 from List.mem_append_left _ ((List.mem_of_getElem? (i := 158) rfl : _ ∈ tables_1_1)))))
  obtain ⟨D, hD⟩ := ws_K htb
  obtain ⟨ca, hca⟩ := ws_ca htb hAOA hAO
  obtain ⟨fa, hfa, hT⟩ := ws_fac hgv
  have hZ : va_Z "PaperTrail$Odds" "FACTORIALS" "[I" (.ref fa) (fun q => s.heap.size ≤ q) s s.heap := va_Zof (hts _ (List.mem_append_right _ (show _ ∈ tables_1 from List.mem_append_right _ (List.mem_append_right _ (List.mem_append_right _ (List.mem_append_left _ ((List.mem_of_getElem? (i := 219) rfl : _ ∈ tables_1_4)))))))) (htb _ sy_ci3.2) hfa (fun a ha => Nat.not_le.mpr ha)
  have z8 : (sy_df 8).length = 17 := rfl
  have z9 : (sy_df 9).length = 29 := rfl
  have go := ws_end (e := e) (below := below) (l := l) (D := D) (ca := ca) hL hC hX hT hZ
  have s17 := syo_istore (ls := [(5, b), (3, 0), (3, 100), (9, 0)]) (st := []) (v := (0, 0)) (i := 3) (pc := 17) hC (by decide +kernel) (by decide) rfl go
  have s16 := syo_const (z := 0) (len := 1) (pc := 16) hC (Or.inl ⟨by decide +kernel, by decide +kernel, rfl⟩) rfl s17
  have s15 := syo_astore (ls := [(5, b), (3, 0), (9, 0), (9, 0)]) (i := 2) (q := 100) (pc := 15) hC (by decide +kernel) (by decide) s16
  have s12 := syo_call (d := 1) (idx := 12) (id := 160) (nA := 0) (q := 100) (as := []) (rest := [(3, 100)]) (st := [(3, 100), (3, 100)]) (n := 101) (k := 1207) (n' := 19) (k' := 1461) (pc := 12) hC (by decide +kernel) ws_y10 (sy_call10 ws_y10) rfl rfl (by decide) (Nat.le_of_ble_eq_true rfl) (Nat.le_of_ble_eq_true rfl) rfl (Nat.le_of_ble_eq_true rfl) (Nat.le_of_ble_eq_true rfl) s15
  have s11 := syo_dup (st := []) (v := (3, 100)) (pc := 11) hC (by decide +kernel) (by decide) s12
  have s8 := syo_new (idx := 10) (ci := 9) (ds := sy_df 9) (st := []) (n := 100) (k := 1178) (sw := sy_w1) (pc := 8) hC (by decide +kernel) sy_do9 (fun q hq => by cases hq; exact ⟨(mt_5 (List.mem_of_getElem? (i := 91) rfl) rfl), sy_ci9⟩) (Nat.le_of_ble_eq_true rfl) (Nat.le_of_ble_eq_true rfl) s11
  have s7 := syo_astore (ls := [(5, b), (9, 0), (9, 0), (9, 0)]) (i := 1) (q := 0) (pc := 7) hC (by decide +kernel) (by decide) s8
  have s4 := syo_call (d := 1) (idx := 9) (id := 102) (nA := 0) (q := 0) (as := []) (rest := [(3, 0)]) (st := [(3, 0), (3, 0)]) (n := 1) (k := 17) (n' := 99) (k' := 1161) (pc := 4) hC (by decide +kernel) ws_y9 (sy_call9 ws_y9) rfl rfl (by decide) (Nat.le_of_ble_eq_true rfl) (Nat.le_of_ble_eq_true rfl) rfl (Nat.le_of_ble_eq_true rfl) (Nat.le_of_ble_eq_true rfl) s7
  have s3 := syo_dup (st := []) (v := (3, 0)) (pc := 3) hC (by decide +kernel) (by decide) s4
  have s0 := syo_new (idx := 7) (ci := 8) (ds := sy_df 8) (st := []) (n := 0) (k := 0) (sw := []) (pc := 0) hC (by decide +kernel) sy_do8 (fun q hq => by cases hq; exact ⟨(mt_1 (List.mem_of_getElem? (i := 15) rfl) rfl), sy_ci8⟩) (Nat.le_of_ble_eq_true rfl) (Nat.le_of_ble_eq_true rfl) s3
  rw [lg_entry_eq]
  have hent := lv_entry [Value.ref b] (n := 4) (Nat.le_of_ble_eq_true rfl)
  refine s0 s.heap [] _ [] ⟨[], ⟨[], rfl⟩, ⟨(fun k q h => by cases h), ⟨hD, hca⟩, ⟨(fun i j x y h => by cases h), (fun k q h => by cases h)⟩, va_S.rf, fun q h => h, hAOA, hAO⟩, ⟨rfl, (fun k c h => by cases h)⟩, ⟨rfl, hent.1, hent.2.1, fun k v hk => ?_⟩, rfl⟩
  match k, hk with
  | 0, hk => cases hk; exact Or.inr ⟨show (5 : Nat) ≠ 2 by decide, .ref b, rfl, hent.2.2 (0, .ref b) List.mem_cons_self⟩
  | 1, hk => cases hk; exact Or.inl rfl
  | 2, hk => cases hk; exact Or.inl rfl
  | 3, hk => cases hk; exact Or.inl rfl
  | k + 4, hk => cases hk
