/-! ===== constructors: calls, and a whole run ===== -/
def sy_Rm (d n k : Nat) : Room := { frames := d + 1, cells := n, slots := k, locals := 41 * (d + 1) }
def sy_Pre (D : va_G) (ca : Nat → ClassId) (ws : va_W) (sz : Nat) : State → Prop := fun U => U.heap.size = sz ∧ va_P D vwCl ws U.heap ∧ va_K D vwCl (ct_ty ca) U ∧ va_D (fun _ => True) ws ∧ va_AOA .int U ∧ va_AO "PaperTrail$Course" U
def sy_Qc (D : va_G) (ca : Nat → ClassId) (al0 : List Nat) (sw : List sc) (A : Nat → Prop) : Array Value → State → Outcome → State → Prop := va_Qv (fun w : va_W => (∃ x, sy_al w = al0 ++ x) ∧ sy_w ca sw w) (fun w t => va_P D vwCl w t.heap ∧ va_D A w) A
def sy_Call (d id : Nat) (as : List sv) (sw sw' : List sc) (n k : Nat) : Prop := ∀ (l : Launch) (D : va_G) (ca : Nat → ClassId) (ws : va_W) (vs : List Value) (sz : Nat), sy_w ca sw ws → sy_fs (sy_al ws) as vs → Met l (ab_mi id).1 (ab_wd (ab_mi id)) (sy_Rm d n k) (va_Pc vs (sy_Pre D ca ws sz)) (sy_Qc D ca (sy_al ws) sw' (va_A ws sz)) n k (va_A ws sz)
/-- a constructor that is called: its words -/
def sy_okY (own : String) (idx id nA : Nat) : Prop := Cond.code (ab_mi id).1 (ab_mi id).2.1 (ab_mi id).2.2.1 (ab_mi id).2.2.2 ∈ ab_tb ∧ Cond.initialized (ab_mi id).1.cls ∈ ab_tb ∧ Cond.instanceMethod (ab_mi id).1 ∈ ab_tb ∧ Cond.methodLink own idx (ab_mi id).1 ∈ ab_tb ∧ (ab_mi id).1.name = "<init>" ∧ (ab_mi id).2.2.2 = none ∧ ((ab_mi id).1.cls ≠ "java/lang/invoke/MethodHandle" ∧ (ab_mi id).1.cls ≠ "java/lang/invoke/VarHandle" ∧ (parseMethodDescriptor (ab_mi id).1.desc).map (fun d => d.parameters.length) = some nA) ∧ (ab_mi id).2.2.1 ≤ 20 ∧ plainName (ab_mi id).1.cls = true
theorem sy_cat_sum : ∀ vs : List Value, (vs.map fun v => v.category).sum ≤ 2 * vs.length
  | [] => Nat.le_refl _
  | v :: vs => by
    have := sy_cat_sum vs
    rw [List.map_cons, List.sum_cons, List.length_cons]
    rcases lv_cat v with h | h <;> omega
theorem sy_args_mem : ∀ (vs : List Value) (i k : Nat) (x : Value), (∀ y ∈ vs, y.category = 1) → vs[k]? = some x → (i + k, x) ∈ lv_args i vs
  | [], i, k, x, _, h => by cases h
  | v :: vs, i, 0, x, hc, h => by
    cases h
    exact List.mem_cons_self
  | v :: vs, i, k + 1, x, hc, h => by
    have h1 := sy_args_mem vs (i + 1) k x (fun y hy => hc y (List.mem_cons_of_mem _ hy)) h
    have hv := hc v List.mem_cons_self
    show (i + (k + 1), x) ∈ (i, v) :: lv_args (if v.category = 2 then i + 2 else i + 1) vs
    rw [if_neg (by omega), show i + (k + 1) = i + 1 + k by omega]
    exact List.mem_cons_of_mem _ h1
theorem sy_sl_len : ∀ vs : List Value, (∀ y ∈ vs, y.category = 1) → (lg_sl vs).length = vs.length
  | [], _ => rfl
  | v :: vs, hc => by
    have := sy_sl_len vs (fun y hy => hc y (List.mem_cons_of_mem _ hy))
    have hv := hc v List.mem_cons_self
    simp only [lg_sl, List.flatMap_cons, List.length_append, List.length_cons] at this ⊢
    simp only [this, hv]
    simp; omega
theorem sy_fs_cats {al : List Nat} : ∀ {as : List sv} {vs : List Value}, (as.all fun v => !(Nat.beq v.1 2)) = true → sy_fs al as vs → ∀ y ∈ vs, y.category = 1
  | [], vs, _, h, y, hy => by rw [show vs = [] from h] at hy; cases hy
  | v :: as, vs, ha, ⟨x, xs, h1, h2, h3⟩, y, hy => by
    subst h3
    rw [List.all_cons, Bool.and_eq_true] at ha
    rcases List.mem_cons.mp hy with e | e
    · subst e
      exact sy_x_cat h1 (fun q => by have := ha.1; rw [q] at this; cases this)
    · exact sy_fs_cats ha.2 h2 y e
section SYC
variable {p : Program} {l : Launch} {e : Env} {R : Room} {s : State} {m : MethodId} {args : Array Value} {below : List Frame} {meth : Method} {c : Code} {Q : State → Prop} {mi : ab_I}
variable {D : va_G} {ca : Nat → ClassId} {A : Nat → Prop} {al0 : List Nat} {nL pc n k : Nat} {ls st : List sv} {sw : List sc}
theorem syo_call (hC : ab_Cx mi p s m args meth c) {d idx id nA q n' k' : Nat} {as rest : List sv} {sw' : List sc} (hd : decode mi.2.1 pc = .ok (.invokespecial idx, 3)) (hy : sy_okY mi.1.cls idx id nA) (hcall : sy_Call d id ((3, q) :: as) sw sw' n' k') (hst : st = as.reverse ++ (3, q) :: rest) (hlen : as.length = nA) (hrest : rest.length ≤ 4) (hR : d + 2 ≤ R.frames) (hR2 : 41 * (d + 2) ≤ R.locals) (hnl : mi.2.2.1 = nL) (hc : n + n' ≤ R.cells) (hk : k + k' ≤ R.slots) (hn : sy_N p l e R s m args below meth c Q D ca A al0 nL (pc + 3) ls rest sw' (n + n') (k + k')) : sy_N p l e R s m args below meth c Q D ca A al0 nL pc ls st sw n k := by
  intro H locs lr vs ⟨ws, hx, I, hw, hL, hs⟩
  subst hst
  obtain ⟨v1, v2, hs1, ⟨xb, vr, hb, hsr, h3⟩, hvs⟩ := sy_fs_cat hs
  obtain ⟨b, hab, rfl⟩ := sy_x_ref hb
  subst h3 hvs
  have hAs : sy_fs (sy_al ws) as v1.reverse := by
    have := sy_fs_rev hs1
    rw [List.reverse_reverse] at this
    exact this
  have hMet := hcall l D ca ws (.ref b :: v1.reverse) H.size hw ⟨_, _, hb, hAs, rfl⟩
  have ht := hC.2.2.2.2.2.1
  obtain ⟨y1, y2, y3, y4, y5, y6, y7, y8, y9⟩ := hy
  have hFc : ∀ q, va_A ws H.size q → A q := fun q h => h.elim (fun ⟨j, en, hj⟩ => I.2.2.1.2 j _ hj) (fun h => I.2.2.2.2.1 q (Nat.le_trans I.2.2.2.1.1 h))
  have hwd : ab_wd (ab_mi id) = Cond.code (ab_mi id).1 (ab_mi id).2.1 (ab_mi id).2.2.1 none :: ab_tb := by unfold ab_wd; rw [y6]
  refine va_callv (va_runI (As := v1.reverse) (rest := vr) (n := nA) ⟨hC.1, hC.2.1, hC.2.2.2.1, hC.2.2.2.2.1, ht⟩ hMet (cwI nA ht (ab_wd_good y1) hwd rfl rfl (ht _ y2) (ht _ y4) (ht _ y3) y5 y7 ⟨by show d + 1 + 1 ≤ _; omega, by show 8 + (_ + 11) + 41 * (d + 1) ≤ _; omega⟩) ⟨fun a U g mk q => ?_, fun U hU hW => ?_⟩ rfl (by rw [← hlen]; exact sy_fs_len hAs) (by rw [hnl]; exact hL.2.1) (by rw [List.reverse_reverse]) ?_ hd ⟨hc, hk⟩) I.2.2.2.1 (fun q _ h => hFc q h) hFc (fun w t H1 locs1 ht1 hvm hpost hB hz hk1 hS => ?_)
  · obtain ⟨q0, q1, q2, q3, q4, q5, q6⟩ := q
    exact ⟨q0, q1, q2, va_K.moved (u := U) (U := U.calling g mk a) (Vm.Alike.refl U.vm) q3, q4, va_AOA.moved (u := U) (U := U.calling g mk a) (Vm.Alike.refl U.vm) q5, va_AO.moved (u := U) (U := U.calling g mk a) (Vm.Alike.refl U.vm) q6⟩
  · exact ⟨rfl, by rw [hU], by rw [hU]; exact I.1, va_K.moved hW.alike I.2.1, I.2.2.1.weaken (fun _ _ _ _ => trivial), va_AOA.moved hW.alike I.2.2.2.2.2.1, va_AO.moved hW.alike I.2.2.2.2.2.2⟩
  · show 2 * 0 + _ ≤ 8
    have := sy_cat_sum vr
    have := sy_fs_len hsr
    omega
  · obtain ⟨⟨x, hx1⟩, hw1⟩ := hpost
    obtain ⟨hP1, hD1⟩ := hB
    rw [ht1] at hP1
    refine hn H1 locs1 lr vr ⟨w, ?_, ⟨hP1, I.2.1, hD1.weaken (fun _ _ _ h => hFc _ h), hS, I.2.2.2.2⟩, hw1, by rw [hx1]; exact sy_lr_app _ hL, by rw [hx1]; exact sy_fs_app _ hsr⟩
    obtain ⟨x0, hx0⟩ := hx
    exact ⟨x0 ++ x, by rw [hx1, hx0, List.append_assoc]⟩
theorem syo_ret (hC : ab_Cx mi p s m args meth c) (hd : decode mi.2.1 pc = .ok (.return_, 1)) (hr : mi.2.2.2 = none) : sy_N p l e R s m args below meth c (MQ below (sy_Qc D ca al0 sw A) args s n k A) D ca A al0 nL pc ls [] sw n k := by
  intro H locs lr vs ⟨ws, hx, I, hw, hL, hs⟩
  have hs : vs = [] := hs
  subst hs
  exact W.vret hC.1 hC.2.1 (hC.2.2.1.trans hr) (fun t ht hW => ⟨⟨ws, rfl, ⟨hx, hw⟩, by rw [ht]; exact I.1, I.2.2.1⟩, I.2.2.2.1.F ht⟩) I.2.2.2.1.2.2 hd hC.2.2.2.2.2.2
end SYC
/-- from a point of a constructor to its end -/
def sy_Go (d id pc : Nat) (ls st : List sv) (sw : List sc) (n k : Nat) (sw' : List sc) (n' k' : Nat) : Prop :=
  ∀ (p : Program) (l : Launch) (e : Env) (R : Room) (s : State) (m : MethodId) (args : Array Value) (below : List Frame) (meth : Method) (c : Code) (D : va_G) (ca : Nat → ClassId) (A : Nat → Prop) (al0 : List Nat),
    ab_Cx (ab_mi id) p s m args meth c → meth.name = "<init>" → d + 1 ≤ R.frames → 41 * (d + 1) ≤ R.locals → n' ≤ R.cells → k' ≤ R.slots →
    sy_N p l e R s m args below meth c (MQ below (sy_Qc D ca al0 sw' A) args s n' k' A) D ca A al0 (ab_mi id).2.2.1 pc ls st sw n k
theorem sy_Call_of {d id n k nA idx : Nat} {own : String} {as : List sv} {sw sw' : List sc} (hy : sy_okY own idx id nA) (ha : (as.all fun v => !(Nat.beq v.1 2)) = true) (hl : as.length ≤ (ab_mi id).2.2.1) (h : sy_Go d id 0 (as ++ List.replicate ((ab_mi id).2.2.1 - as.length) (9, 0)) [] sw 0 0 sw' n k) : sy_Call d id as sw sw' n k := by
  intro l D ca ws vs sz hw hs
  obtain ⟨y1, y2, y3, y4, y5, y6, y7, y8, y9⟩ := hy
  refine Met.ofW (cc := (ab_mi id).2.1) (maxL := (ab_mi id).2.2.1) (ret := (ab_mi id).2.2.2) y9 rfl ?_
  intro p e s m args below meth c s₁ B hml hv
  obtain ⟨rfl, hsz, hP, hK, hD, hAOA, hAO⟩ := hv
  have hts := atoms_spec (ws := ab_wd (ab_mi id)) B.pre
  have hown : s.vm.findClass (ab_mi id).1.cls = some m.cls := findClass_of_methodNamed B.named
  have hin : meth.name = "<init>" := ((name_of_methodNamed B.named B.method).1).trans y5
  subst hsz
  have hD := hD.self (sz := s.heap.size)
  have hcat := sy_fs_cats ha hs
  have hlen := sy_fs_len hs
  have hent := lv_entry vs (n := (ab_mi id).2.2.1) (by rw [sy_sl_len vs hcat, hlen]; exact hl)
  rw [lg_entry_eq]
  refine h p l e _ s m _ below meth c D ca _ (sy_al ws) ⟨B.exec, B.bytes, B.returns, hml, hown, fun w hw => hts w (List.mem_cons_of_mem _ hw), B.notSynchronized⟩ hin (Nat.le_refl _) (Nat.le_refl _) (Nat.le_refl _) (Nat.le_refl _) s.heap [] _ [] ⟨ws, ⟨[], (List.append_nil _).symm⟩, ⟨hP, hK, hD, va_S.rf, fun q hq => Or.inr hq, hAOA, hAO⟩, hw, ⟨?_, hent.1, hent.2.1, fun j v hj => ?_⟩, rfl⟩
  · rw [List.length_append, List.length_replicate]; omega
  · by_cases hja : j < as.length
    · rw [List.getElem?_append_left hja] at hj
      obtain ⟨x, hx1, hx2⟩ := sy_fs_get hs hj
      have hm := sy_args_mem vs 0 j x hcat hx1
      rw [Nat.zero_add] at hm
      refine Or.inr ⟨fun q => ?_, x, hx2, hent.2.2 _ hm⟩
      have := List.all_eq_true.mp ha v (List.mem_of_getElem? hj)
      rw [q] at this
      cases this
    · rw [List.getElem?_append_right (by omega), List.getElem?_replicate] at hj
      split at hj
      · cases hj
        exact Or.inl rfl
      · cases hj
