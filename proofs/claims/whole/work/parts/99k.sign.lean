/-! ===== constructors: a machine of signs ===== -/
/-- a sign: (0, n) an int, (1, _) the int -1, (2, n) a long, (3, k) the world's cell k, (4, _) null, (5, a) the cell at a, (9, _) nothing -/
abbrev sv : Type := Nat × Nat
/-- a cell's sign: its sort, its length or class, what it holds -/
abbrev sc : Type := Nat × Nat × List sv
def sy_x (al : List Nat) : sv → Option Value
  | (0, n) => some (.int (nI n))
  | (1, _) => some (.int (-1))
  | (2, n) => some (.long (lN n))
  | (3, k) => (al[k]?).map Value.ref
  | (4, _) => some .null
  | (5, a) => some (.ref a)
  | _ => none
def sy_i : sv → Int32
  | (0, n) => nI n
  | _ => -1
theorem sy_x_app {al : List Nat} {v : sv} {x : Value} (r : List Nat) (h : sy_x al v = some x) : sy_x (al ++ r) v = some x := by
  unfold sy_x at h ⊢
  split at h
  · exact h
  · exact h
  · exact h
  · rename_i k
    cases hk : al[k]? with
    | none => rw [hk] at h; cases h
    | some a =>
      rw [hk] at h
      show ((al ++ r)[k]?).map Value.ref = some x
      rw [List.getElem?_append_left (List.getElem?_eq_some_iff.mp hk).1, hk]
      exact h
  · exact h
  · exact h
  · cases h
theorem sy_x_ref {al : List Nat} {k : Nat} {x : Value} (h : sy_x al (3, k) = some x) : ∃ a, al[k]? = some a ∧ x = .ref a := by
  have h : (al[k]?).map Value.ref = some x := h
  cases hk : al[k]? with
  | none => rw [hk] at h; cases h
  | some a => rw [hk] at h; exact ⟨a, rfl, (Option.some.inj h).symm⟩
theorem sy_x_int {al : List Nat} {v : sv} (h : Nat.ble v.1 1 = true) : sy_x al v = some (.int (sy_i v)) := by
  obtain ⟨a, b⟩ := v
  match a, h with
  | 0, _ => rfl
  | 1, _ => rfl
theorem sy_x_cat {al : List Nat} {v : sv} {x : Value} (h : sy_x al v = some x) (hv : v.1 ≠ 2) : x.category = 1 := by
  unfold sy_x at h
  split at h
  · cases h; rfl
  · cases h; rfl
  · exact absurd rfl hv
  · obtain ⟨a, -, rfl⟩ := sy_x_ref h
    rfl
  · cases h; rfl
  · cases h; rfl
  · cases h
def sy_fs (al : List Nat) : List sv → List Value → Prop
  | [], fs => fs = []
  | v :: r, fs => ∃ x xs, sy_x al v = some x ∧ sy_fs al r xs ∧ fs = x :: xs
theorem sy_fs_app {al : List Nat} (r : List Nat) : ∀ {vs : List sv} {fs : List Value}, sy_fs al vs fs → sy_fs (al ++ r) vs fs
  | [], _, h => h
  | _ :: _, _, ⟨x, xs, h1, h2, h3⟩ => ⟨x, xs, sy_x_app r h1, sy_fs_app r h2, h3⟩
theorem sy_fs_len {al : List Nat} : ∀ {vs : List sv} {fs : List Value}, sy_fs al vs fs → fs.length = vs.length
  | [], _, h => by rw [show _ = [] from h]; rfl
  | _ :: _, _, ⟨x, xs, h1, h2, h3⟩ => by rw [h3, List.length_cons, List.length_cons, sy_fs_len h2]
theorem sy_fs_get {al : List Nat} : ∀ {vs : List sv} {fs : List Value}, sy_fs al vs fs → ∀ {k : Nat} {v : sv}, vs[k]? = some v → ∃ x, fs[k]? = some x ∧ sy_x al v = some x
  | [], _, _, k, v, hk => by cases hk
  | _ :: _, _, ⟨x, xs, h1, h2, h3⟩, 0, v, hk => by
    have hk := Option.some.inj hk
    subst hk h3
    exact ⟨x, rfl, h1⟩
  | _ :: _, _, ⟨x, xs, h1, h2, h3⟩, k + 1, v, hk => by
    subst h3
    exact sy_fs_get h2 (k := k) hk
theorem sy_fs_set {al : List Nat} {v : sv} {x : Value} (hv : sy_x al v = some x) : ∀ {vs : List sv} {fs : List Value} (k : Nat), sy_fs al vs fs → sy_fs al (vs.set k v) (fs.set k x)
  | [], _, k, h => by rw [show _ = [] from h]; rfl
  | _ :: _, _, 0, ⟨y, ys, h1, h2, h3⟩ => by subst h3; exact ⟨x, ys, hv, h2, rfl⟩
  | _ :: _, _, k + 1, ⟨y, ys, h1, h2, h3⟩ => by subst h3; exact ⟨y, _, h1, sy_fs_set hv k h2, rfl⟩
theorem sy_fs_cat {al : List Nat} : ∀ {a b : List sv} {fs : List Value}, sy_fs al (a ++ b) fs → ∃ x y, sy_fs al a x ∧ sy_fs al b y ∧ fs = x ++ y
  | [], b, fs, h => ⟨[], fs, rfl, h, rfl⟩
  | v :: a, b, fs, ⟨x, xs, h1, h2, h3⟩ => by
    obtain ⟨p, q, e1, e2, e3⟩ := sy_fs_cat (a := a) h2
    exact ⟨x :: p, q, ⟨x, p, h1, e1, rfl⟩, e2, by rw [h3, e3]; rfl⟩
theorem sy_fs_join {al : List Nat} : ∀ {a b : List sv} {x y : List Value}, sy_fs al a x → sy_fs al b y → sy_fs al (a ++ b) (x ++ y)
  | [], b, x, y, h, h2 => by rw [show x = [] from h]; exact h2
  | v :: a, b, x, y, ⟨z, zs, h1, h2, h3⟩, h4 => by subst h3; exact ⟨z, zs ++ y, h1, sy_fs_join h2 h4, rfl⟩
theorem sy_fs_rev {al : List Nat} : ∀ {a : List sv} {x : List Value}, sy_fs al a x → sy_fs al a.reverse x.reverse
  | [], x, h => by rw [show x = [] from h]; rfl
  | v :: a, x, ⟨z, zs, h1, h2, h3⟩ => by
    subst h3
    rw [List.reverse_cons, List.reverse_cons]
    exact sy_fs_join (sy_fs_rev h2) ⟨z, [], h1, rfl, rfl⟩
def sy_f : List sv → Nat → Int32
  | [] => fun _ => 0
  | q :: r => upd (sy_f r) q.1 (-1)
def sy_q (al : List Nat) : List sv → (Nat → Option Nat) → Prop
  | [], f => f = fun _ => none
  | q :: r, f => ∃ g a, sy_q al r g ∧ al[q.2]? = some a ∧ f = va_up g q.1 (some a)
theorem sy_al_app {al r : List Nat} {k a : Nat} (h : al[k]? = some a) : (al ++ r)[k]? = some a := by
  rw [List.getElem?_append_left (List.getElem?_eq_some_iff.mp h).1]; exact h
theorem sy_q_app {al : List Nat} (r : List Nat) : ∀ {c : List sv} {f : Nat → Option Nat}, sy_q al c f → sy_q (al ++ r) c f
  | [], _, h => h
  | _ :: _, _, ⟨g, a, h1, h2, h3⟩ => ⟨g, a, sy_q_app r h1, sy_al_app h2, h3⟩
def sy_ce (al : List Nat) (ca : Nat → ClassId) : sc → va_E → Prop
  | (0, n, c), e => e = .inl (ca 0, n, .inl (sy_f c))
  | (1, n, _), e => e = .inl (ca 1, n, .inl (fun _ => 0))
  | (2, n, _), e => e = .inl (ca 2, n, .inr (.inl (fun _ => 0)))
  | (3, n, c), e => ∃ r : Nat → Nat, (∀ j, j < n → al[(c.headD (0, 0)).1 + j]? = some (r j)) ∧ e = .inl (ca 3, n, .inr (.inr (.inr (.inr (fun j => if j < n then some (r j) else none)))))
  | (4, n, c), e => ∃ f, sy_q al c f ∧ e = .inl (ca 4, n, .inr (.inr (.inr (.inr f))))
  | (5, ci, c), e => ∃ fs, sy_fs al c fs ∧ e = .inr (ci, fs)
  | _, _ => False
theorem sy_ce_app {al : List Nat} {ca : Nat → ClassId} (r : List Nat) {c : sc} {e : va_E} (h : sy_ce al ca c e) : sy_ce (al ++ r) ca c e := by
  unfold sy_ce at h ⊢
  split at h
  · exact h
  · exact h
  · exact h
  · obtain ⟨f, h1, h2⟩ := h
    exact ⟨f, fun j hj => sy_al_app (h1 j hj), h2⟩
  · obtain ⟨f, h1, h2⟩ := h
    exact ⟨f, sy_q_app r h1, h2⟩
  · obtain ⟨fs, h1, h2⟩ := h
    exact ⟨fs, sy_fs_app r h1, h2⟩
  · exact h.elim
abbrev sy_al (ws : va_W) : List Nat := ws.map (fun q => q.1)
theorem sy_al_get {ws : va_W} {k a : Nat} (h : (sy_al ws)[k]? = some a) : ∃ e, ws[k]? = some (a, e) := by
  rw [List.getElem?_map] at h
  cases hk : ws[k]? with
  | none => rw [hk] at h; cases h
  | some q =>
    rw [hk] at h
    obtain ⟨b, e⟩ := q
    have h : b = a := Option.some.inj h
    subst h
    exact ⟨e, rfl⟩
theorem sy_al_set {ws : va_W} {k a : Nat} {e e2 : va_E} (h : ws[k]? = some (a, e)) : sy_al (ws.set k (a, e2)) = sy_al ws := by
  apply List.ext_getElem?
  intro j
  rw [List.getElem?_map, List.getElem?_map, List.getElem?_set]
  split
  · rename_i hj
    subst hj
    rw [if_pos (List.getElem?_eq_some_iff.mp h).1, h]
    rfl
  · rfl
def sy_w (ca : Nat → ClassId) (sw : List sc) (ws : va_W) : Prop := sw.length = ws.length ∧ ∀ (k : Nat) (c : sc), sw[k]? = some c → ∃ q, ws[k]? = some q ∧ sy_ce (sy_al ws) ca c q.2
theorem sy_w_at {ca : Nat → ClassId} {sw : List sc} {ws : va_W} (h : sy_w ca sw ws) {k a : Nat} {c : sc} (hk : sw[k]? = some c) (ha : (sy_al ws)[k]? = some a) : ∃ e, ws[k]? = some (a, e) ∧ sy_ce (sy_al ws) ca c e := by
  obtain ⟨q, h1, h2⟩ := h.2 k c hk
  obtain ⟨e, h3⟩ := sy_al_get ha
  cases h1.symm.trans h3
  exact ⟨e, h3, h2⟩
theorem sy_w_set {ca : Nat → ClassId} {sw : List sc} {ws : va_W} (h : sy_w ca sw ws) {k a : Nat} {c : sc} {e e2 : va_E} (ha : ws[k]? = some (a, e)) (hc : sy_ce (sy_al ws) ca c e2) : sy_w ca (sw.set k c) (ws.set k (a, e2)) := by
  refine ⟨by rw [List.length_set, List.length_set]; exact h.1, fun j d hj => ?_⟩
  rw [sy_al_set ha]
  rw [List.getElem?_set] at hj ⊢
  split at hj
  · rename_i hkj
    subst hkj
    rw [if_pos rfl, if_pos (List.getElem?_eq_some_iff.mp ha).1]
    split at hj
    · cases hj
      exact ⟨_, rfl, hc⟩
    · cases hj
  · rename_i hkj
    rw [if_neg hkj]
    exact h.2 j d hj
theorem sy_w_app {ca : Nat → ClassId} {sw s1 : List sc} {ws w1 : va_W} (h : sy_w ca sw ws) (h1 : s1.length = w1.length) (h2 : ∀ (k : Nat) (c : sc), s1[k]? = some c → ∃ q, w1[k]? = some q ∧ sy_ce (sy_al (ws ++ w1)) ca c q.2) : sy_w ca (sw ++ s1) (ws ++ w1) := by
  refine ⟨by rw [List.length_append, List.length_append, h.1, h1], fun k c hk => ?_⟩
  by_cases hl : k < sw.length
  · rw [List.getElem?_append_left hl] at hk
    obtain ⟨q, e1, e2⟩ := h.2 k c hk
    refine ⟨q, by rw [List.getElem?_append_left (by rw [← h.1]; exact hl)]; exact e1, ?_⟩
    rw [sy_al, List.map_append]
    exact sy_ce_app _ e2
  · rw [List.getElem?_append_right (by omega)] at hk
    rw [List.getElem?_append_right (by rw [← h.1]; omega), ← h.1]
    exact h2 _ _ hk
/-! ===== what stands at a point of a constructor ===== -/
abbrev ct_ty (ca : Nat → ClassId) : List (ClassId × FieldType) := [(ca 0, .int), (ca 1, .boolean), (ca 2, .long), (ca 3, .array .int), (ca 4, .object "PaperTrail$Course")]
def ct_I (D : va_G) (ca : Nat → ClassId) (A : Nat → Prop) (s : State) (H : Heap) (locs : List Loc) (ws : va_W) : Prop :=
  va_P D vwCl ws H ∧ va_K D vwCl (ct_ty ca) s ∧ va_D A ws ∧ va_S A s.heap H locs ∧ (∀ q, s.heap.size ≤ q → A q) ∧ va_AOA .int s ∧ va_AO "PaperTrail$Course" s
def sy_lr (al : List Nat) (lr : Array Slot) (nL : Nat) (ls : List sv) : Prop := ls.length = nL ∧ lr.size = nL ∧ lv_wf lr ∧ ∀ (k : Nat) (v : sv), ls[k]? = some v → v.1 = 9 ∨ (v.1 ≠ 2 ∧ ∃ x, sy_x al v = some x ∧ lr[k]? = some (.val x))
theorem sy_lr_app {al : List Nat} (r : List Nat) {lr : Array Slot} {nL : Nat} {ls : List sv} (h : sy_lr al lr nL ls) : sy_lr (al ++ r) lr nL ls := ⟨h.1, h.2.1, h.2.2.1, fun k v hk => (h.2.2.2 k v hk).imp id (fun ⟨a, x, b, c⟩ => ⟨a, x, sy_x_app r b, c⟩)⟩
def sy_prs (al : List Nat) (ls : List sv) : List (Nat × Value) := (List.range ls.length).filterMap (fun k => (ls[k]?).bind (fun v => (sy_x al v).map (fun x => (k, x))))
theorem sy_prs_mem {al : List Nat} {ls : List sv} {q : Nat × Value} : q ∈ sy_prs al ls ↔ ∃ v, ls[q.1]? = some v ∧ sy_x al v = some q.2 := by
  unfold sy_prs
  rw [List.mem_filterMap]
  constructor
  · intro ⟨k, hk, h⟩
    cases hv : ls[k]? with
    | none => rw [hv] at h; cases h
    | some v =>
      rw [hv] at h
      have h : (sy_x al v).map (fun x => (k, x)) = some q := h
      cases hx : sy_x al v with
      | none => rw [hx] at h; cases h
      | some x =>
        rw [hx] at h
        have h : (k, x) = q := Option.some.inj h
        subst h
        exact ⟨v, hv, hx⟩
  · intro ⟨v, h1, h2⟩
    refine ⟨q.1, List.mem_range.mpr (List.getElem?_eq_some_iff.mp h1).1, ?_⟩
    rw [h1]
    show (sy_x al v).map (fun x => (q.1, x)) = some q
    rw [h2]
    rfl
theorem sy_lr_has {al : List Nat} {lr : Array Slot} {nL : Nat} {ls : List sv} (h : sy_lr al lr nL ls) : lv_has lr nL (sy_prs al ls) := by
  refine ⟨h.2.1, h.2.2.1, fun q hq => ?_⟩
  obtain ⟨v, h1, h2⟩ := sy_prs_mem.mp hq
  rcases h.2.2.2 _ _ h1 with h9 | ⟨-, x, h3, h4⟩
  · obtain ⟨a, b⟩ := v
    have h9 : a = 9 := h9
    subst h9
    cases h2
  · cases h2.symm.trans h3
    exact h4
theorem sy_lr_put {al : List Nat} {lr lr2 : Array Slot} {nL : Nat} {ls : List sv} {i : Nat} {v : sv} {x : Value} {l0 : List (Nat × Value)} (hl0 : ∀ q ∈ sy_prs al ls, q ∈ l0) (h : sy_lr al lr nL ls) (hv : sy_x al v = some x) (h2 : v.1 ≠ 2) (hs : lv_has lr2 nL ((i, x) :: l0.filter (fun q => !(q.1 == i) && !(q.1 + 1 == i && q.2.category == 2)))) : sy_lr al lr2 nL (ls.set i v) := by
  refine ⟨by rw [List.length_set]; exact h.1, hs.1, hs.2.1, fun k w hk => ?_⟩
  rw [List.getElem?_set] at hk
  split at hk
  · rename_i hik
    subst hik
    split at hk
    · cases hk
      exact Or.inr ⟨h2, x, hv, hs.2.2 _ List.mem_cons_self⟩
    · cases hk
  · rename_i hik
    rcases h.2.2.2 k w hk with h9 | ⟨h3, y, h4, h5⟩
    · exact Or.inl h9
    · refine Or.inr ⟨h3, y, h4, hs.2.2 (k, y) (List.mem_cons_of_mem _ (List.mem_filter.mpr ⟨hl0 _ (sy_prs_mem.mpr ⟨w, hk, h4⟩), ?_⟩))⟩
      have hc := sy_x_cat h4 h3
      have : (k == i) = false := by simp; exact fun e => hik e.symm
      simp [this, hc]
def sy_St (al0 : List Nat) (D : va_G) (ca : Nat → ClassId) (A : Nat → Prop) (s : State) (H : Heap) (locs : List Loc) (nL : Nat) (lr : Array Slot) (vs : List Value) (ls st : List sv) (sw : List sc) : Prop :=
  ∃ ws : va_W, (∃ x, sy_al ws = al0 ++ x) ∧ ct_I D ca A s H locs ws ∧ sy_w ca sw ws ∧ sy_lr (sy_al ws) lr nL ls ∧ sy_fs (sy_al ws) st vs
/-- from here, with these signs, the run comes to its end -/
def sy_N (p : Program) (l : Launch) (e : Env) (R : Room) (s : State) (m : MethodId) (args : Array Value) (below : List Frame) (meth : Method) (c : Code) (Q : State → Prop) (D : va_G) (ca : Nat → ClassId) (A : Nat → Prop) (al0 : List Nat) (nL : Nat) (pc : Nat) (ls st : List sv) (sw : List sc) (n k : Nat) : Prop :=
  ∀ (H : Heap) (locs : List Loc) (lr : Array Slot) (vs : List Value), sy_St al0 D ca A s H locs nL lr vs ls st sw → W p l e R s m args below meth c H locs n k Q (F0 m pc lr vs)
