/-! ===== the run of signs ===== -/
abbrev sy_R : Type := Nat × Nat × Nat × Nat × Nat
def sy_df : Nat → List sv
  | 0 => [(0, 0), (0, 0), (4, 0), (4, 0), (4, 0), (4, 0), (4, 0), (4, 0), (4, 0), (4, 0), (4, 0), (4, 0), (4, 0), (4, 0), (4, 0), (4, 0), (4, 0)]
  | 1 => [(0, 0), (0, 0), (0, 0), (0, 0), (4, 0), (4, 0), (4, 0), (4, 0)]
  | 2 => [(0, 0), (0, 0), (0, 0), (4, 0), (4, 0)]
  | 3 => [(4, 0), (4, 0), (4, 0), (2, 0), (2, 0), (2, 0), (0, 0), (0, 0)]
  | 4 => [(4, 0), (4, 0), (4, 0), (4, 0), (4, 0), (0, 0), (4, 0), (4, 0), (0, 0)]
  | 5 => [(4, 0), (0, 0), (4, 0), (0, 0), (0, 0)]
  | 6 => [(4, 0), (4, 0)]
  | 7 => [(4, 0), (4, 0), (4, 0), (4, 0), (4, 0), (0, 0), (0, 0)]
  | 8 => [(4, 0), (4, 0), (4, 0), (4, 0), (4, 0), (4, 0), (4, 0), (4, 0), (4, 0), (4, 0), (4, 0), (4, 0), (4, 0), (0, 0), (0, 0), (2, 0), (2, 0)]
  | 9 => [(4, 0), (4, 0), (4, 0), (4, 0), (4, 0), (4, 0), (4, 0), (0, 0), (2, 0), (2, 0), (0, 0), (4, 0), (4, 0), (0, 0), (4, 0), (4, 0), (4, 0), (4, 0), (0, 0), (4, 0), (0, 0), (0, 0), (0, 0), (4, 0), (0, 0), (4, 0), (4, 0), (4, 0), (4, 0)]
  | _ => []
def sy_okR (mi : ab_I) : sy_R → Prop
  | (pc, 0, a, b, _) => (decode mi.2.1 pc = .ok (.aload a, 2) ∧ b = 2) ∨ ∃ k' : Fin 4, k'.val = a ∧ decode mi.2.1 pc = .ok (.aload_n k', 1) ∧ b = 1
  | (pc, 1, a, _, _) => ∃ k' : Fin 4, k'.val = a ∧ decode mi.2.1 pc = .ok (.iload_n k', 1)
  | (pc, 2, a, b, t) => Nat.ble a 1 = true ∧ ∃ z : Int, (decode mi.2.1 pc = .ok (.iconst z, 1) ∧ Int32.ofInt z = sy_i (a, b) ∧ t = 1) ∨ (decode mi.2.1 pc = .ok (.bipush z, 2) ∧ (Int8.ofInt z).toInt32 = sy_i (a, b) ∧ t = 2) ∨ (decode mi.2.1 pc = .ok (.sipush z, 3) ∧ (Int16.ofInt z).toInt32 = sy_i (a, b) ∧ t = 3)
  | (pc, 3, a, _, _) => ∃ i : Fin 2, i.val = a ∧ decode mi.2.1 pc = .ok (.lconst i, 1)
  | (pc, 4, _, _, _) => decode mi.2.1 pc = .ok (.dup, 1)
  | (pc, 5, a, _, _) => ∃ k' : Fin 4, k'.val = a ∧ decode mi.2.1 pc = .ok (.istore_n k', 1)
  | (pc, 6, a, _, _) => ∃ k' : Fin 4, k'.val = a ∧ decode mi.2.1 pc = .ok (.astore_n k', 1)
  | (pc, 7, a, _, _) => decode mi.2.1 pc = .ok (.iinc a 1, 3)
  | (pc, 8, a, _, _) => ∃ off : Int, decode mi.2.1 pc = .ok (.goto off, 3) ∧ (pc : Int) + off = (a : Int)
  | (pc, 9, a, _, _) => ∃ off : Int, decode mi.2.1 pc = .ok (.if_icmp .ge off, 3) ∧ (pc : Int) + off = (a : Int)
  | (pc, 10, a, _, _) => (a = 0 ∧ decode mi.2.1 pc = .ok (.newarray .int, 2) ∧ Cond.arrayClass .int ∈ ab_tb) ∨ (a = 1 ∧ decode mi.2.1 pc = .ok (.newarray .boolean, 2) ∧ Cond.arrayClass .boolean ∈ ab_tb) ∨ (a = 2 ∧ decode mi.2.1 pc = .ok (.newarray .long, 2) ∧ Cond.arrayClass .long ∈ ab_tb)
  | (pc, 11, _, _, _) => ∃ idx, decode mi.2.1 pc = .ok (.anewarray idx, 3) ∧ Cond.classLink mi.1.cls idx "PaperTrail$Course" ∈ ab_tb
  | (pc, 12, _, _, _) => ∃ idx, decode mi.2.1 pc = .ok (.multianewarray idx 2, 4) ∧ Cond.classLink mi.1.cls idx "[[I" ∈ ab_tb ∧ Cond.arrayClass .int ∈ ab_tb
  | (pc, 13, a, _, _) => ∃ idx, decode mi.2.1 pc = .ok (.new idx, 3) ∧ (∀ q : vw_C, vwCl[a]? = some q → Cond.classLink mi.1.cls idx q.1 ∈ ab_tb ∧ Cond.instantiable q.1 q.2.2 ∈ ab_tb ∧ Cond.initialized q.1 ∈ ab_tb) ∧ sy_dok a (sy_df a)
  | (pc, 14, a, b, _) => ∃ idx, decode mi.2.1 pc = .ok (.getfield idx, 3) ∧ ab_okF mi.1.cls idx a b
  | (pc, 15, a, b, t) => ∃ idx, decode mi.2.1 pc = .ok (.putfield idx, 3) ∧ ab_okF mi.1.cls idx a b ∧ ∀ q : vw_C, vwCl[a]? = some q → ((q.2.1 b).2.2.2 = true → (q.2.1 b).1 = mi.1.cls) ∧ ∃ ty, parseFieldDescriptor (q.2.1 b).2.2.1 = some ty ∧ sy_tk ty t
  | (pc, 16, _, _, _) => decode mi.2.1 pc = .ok (.iastore, 1)
  | (pc, 17, _, _, _) => decode mi.2.1 pc = .ok (.aastore, 1)
  | (pc, 18, _, _, _) => ∃ idx, decode mi.2.1 pc = .ok (.invokespecial idx, 3) ∧ Cond.methodLink mi.1.cls idx objectInit ∈ ab_tb ∧ Cond.instanceMethod objectInit ∈ ab_tb ∧ Cond.code objectInit ⟨#[0xb1]⟩ 1 none ∈ ab_tb
  | (pc, 19, a, b, _) => ∃ idx, decode mi.2.1 pc = .ok (.invokespecial idx, 3) ∧ sy_okY mi.1.cls idx a b
  | (pc, 20, _, _, _) => decode mi.2.1 pc = .ok (.return_, 1) ∧ mi.2.2.2 = none
  | _ => False
abbrev sy_S : Type := Nat × List sv × List sv × List sc × Nat × Nat
def sy_step (nL : Nat) (ls st : List sv) (sw : List sc) (n k : Nat) : sy_R → Option sy_S
  | (pc, 0, a, b, _) => (match ls[a]? with
    | some (3, q) => some (pc + b, ls, (3, q) :: st, sw, n, k)
    | _ => none)
  | (pc, 1, a, _, _) => (match ls[a]? with
    | some v => (match Nat.ble v.1 1 with
      | true => some (pc + 1, ls, v :: st, sw, n, k)
      | false => none)
    | none => none)
  | (pc, 2, a, b, t) => some (pc + t, ls, (a, b) :: st, sw, n, k)
  | (pc, 3, a, _, _) => some (pc + 1, ls, (2, a) :: st, sw, n, k)
  | (pc, 4, _, _, _) => (match st with
    | v :: r => (match Nat.beq v.1 2 with
      | true => none
      | false => some (pc + 1, ls, v :: v :: r, sw, n, k))
    | [] => none)
  | (pc, 5, a, _, _) => (match st with
    | v :: r => (match Nat.ble v.1 1 && Nat.blt a nL with
      | true => some (pc + 1, ls.set a v, r, sw, n, k)
      | false => none)
    | [] => none)
  | (pc, 6, a, _, _) => (match st with
    | (3, q) :: r => (match Nat.blt a nL with
      | true => some (pc + 1, ls.set a (3, q), r, sw, n, k)
      | false => none)
    | _ => none)
  | (pc, 7, a, _, _) => (match ls[a]? with
    | some (0, x) => (match Nat.blt a nL with
      | true => some (pc + 3, ls.set a (0, x + 1), st, sw, n, k)
      | false => none)
    | _ => none)
  | (pc, 8, a, _, _) => some (a, ls, st, sw, n, k)
  | (pc, 9, a, _, _) => (match st with
    | (0, y) :: (0, x) :: r => (match Nat.blt x 1000 && Nat.blt y 1000 with
      | true => some (if y ≤ x then a else pc + 3, ls, r, sw, n, k)
      | false => none)
    | _ => none)
  | (pc, 10, a, _, _) => (match st with
    | (0, N) :: r => (match Nat.blt N 1000 with
      | true => some (pc + 2, ls, (3, sw.length) :: r, sw ++ [(a, N, [])], n + 1, k + N)
      | false => none)
    | _ => none)
  | (pc, 11, _, _, _) => (match st with
    | (0, N) :: r => (match Nat.blt N 1000 with
      | true => some (pc + 3, ls, (3, sw.length) :: r, sw ++ [(4, N, [])], n + 1, k + N)
      | false => none)
    | _ => none)
  | (pc, 12, _, _, _) => (match st with
    | (0, K) :: (0, N) :: r => (match Nat.blt N 1000 && Nat.blt K 1000 with
      | true => some (pc + 4, ls, (3, sw.length) :: r, sw ++ ((3, N, [(sw.length + 1, 0)]) :: List.replicate N (0, K, [])), n + 1 + N, k + N + N * K)
      | false => none)
    | _ => none)
  | (pc, 13, a, _, _) => some (pc + 3, ls, (3, sw.length) :: st, sw ++ [(5, a, sy_df a)], n + 1, k + (sy_df a).length)
  | (pc, 14, a, b, _) => (match st with
    | (3, q) :: r => (match sw[q]? with
      | some (5, ci, fs) => (match Nat.beq ci a, fs[b]? with
        | true, some v => some (pc + 3, ls, v :: r, sw, n, k)
        | _, _ => none)
      | _ => none)
    | _ => none)
  | (pc, 15, a, b, t) => (match st with
    | v :: (3, q) :: r => (match sw[q]? with
      | some (5, ci, fs) => (match Nat.beq ci a && (Nat.blt b fs.length && sy_tv t v) with
        | true => some (pc + 3, ls, r, sw.set q (5, ci, fs.set b v), n, k)
        | false => none)
      | _ => none)
    | _ => none)
  | (pc, 16, _, _, _) => (match st with
    | (1, _) :: (0, i) :: (3, q) :: r => (match sw[q]? with
      | some (0, N, fs) => (match Nat.blt i N && Nat.blt N 1000 with
        | true => some (pc + 1, ls, r, sw.set q (0, N, (i, 0) :: fs), n, k)
        | false => none)
      | _ => none)
    | _ => none)
  | (pc, 17, _, _, _) => (match st with
    | (3, v) :: (0, i) :: (3, q) :: r => (match sw[q]?, sw[v]? with
      | some (4, N, fs), some (5, 1, _) => (match Nat.blt i N && Nat.blt N 1000 with
        | true => some (pc + 1, ls, r, sw.set q (4, N, (i, v) :: fs), n, k)
        | false => none)
      | _, _ => none)
    | _ => none)
  | (pc, 18, _, _, _) => (match st with
    | [(3, _)] => some (pc + 3, ls, [], sw, n, k)
    | _ => none)
  | _ => none
theorem sy_blt {a b : Nat} (h : Nat.blt a b = true) : a < b := Nat.le_of_ble_eq_true h
theorem sy_and {a b : Bool} (h : (a && b) = true) : a = true ∧ b = true := by rw [Bool.and_eq_true] at h; exact h
theorem sy_step_ok {mi : ab_I} {nL n k pc' n' k' : Nat} {ls st ls' st' : List sv} {sw sw' : List sc} {r : sy_R} (hok : sy_okR mi r) (h : sy_step nL ls st sw n k r = some (pc', ls', st', sw', n', k')) :
    n ≤ n' ∧ k ≤ k' ∧ ∀ {p : Program} {l : Launch} {e : Env} {R : Room} {s : State} {m : MethodId} {args : Array Value} {below : List Frame} {meth : Method} {c : Code} {Q : State → Prop} {D : va_G} {ca : Nat → ClassId} {A : Nat → Prop} {al0 : List Nat},
      ab_Cx mi p s m args meth c → meth.name = "<init>" → mi.2.2.1 = nL → 1 ≤ R.frames → 12 ≤ R.locals → n' ≤ R.cells → k' ≤ R.slots → sy_N p l e R s m args below meth c Q D ca A al0 nL pc' ls' st' sw' n' k' → sy_N p l e R s m args below meth c Q D ca A al0 nL r.1 ls st sw n k := by
  obtain ⟨pc, op, a, b, t⟩ := r
  match op, hok, h with
  | 0, hok, h =>
    simp only [sy_step] at h
    split at h
    · rename_i q hq
      cases h
      exact ⟨Nat.le_refl _, Nat.le_refl _, fun hC _ _ _ _ _ _ hn => syo_aload hC hok hq hn⟩
    · cases h
  | 1, hok, h =>
    simp only [sy_step] at h
    split at h
    · rename_i v hv
      split at h
      · rename_i hb
        cases h
        obtain ⟨i, rfl, hd⟩ := hok
        exact ⟨Nat.le_refl _, Nat.le_refl _, fun hC _ _ _ _ _ _ hn => syo_iload hC hd hv hb hn⟩
      · cases h
    · cases h
  | 2, hok, h =>
    simp only [sy_step] at h
    cases h
    obtain ⟨hv, z, hd⟩ := hok
    exact ⟨Nat.le_refl _, Nat.le_refl _, fun hC _ _ _ _ _ _ hn => syo_const hC hd hv hn⟩
  | 3, hok, h =>
    simp only [sy_step] at h
    cases h
    obtain ⟨i, rfl, hd⟩ := hok
    exact ⟨Nat.le_refl _, Nat.le_refl _, fun hC _ _ _ _ _ _ hn => syo_lconst hC hd hn⟩
  | 4, hok, h =>
    simp only [sy_step] at h
    split at h
    · rename_i v r
      split at h
      · cases h
      · rename_i hb
        cases h
        exact ⟨Nat.le_refl _, Nat.le_refl _, fun hC _ _ _ _ _ _ hn => syo_dup hC hok (fun q => by rw [q] at hb; cases hb) hn⟩
    · cases h
  | 5, hok, h =>
    simp only [sy_step] at h
    split at h
    · rename_i v r
      split at h
      · rename_i hb
        cases h
        obtain ⟨i, rfl, hd⟩ := hok
        exact ⟨Nat.le_refl _, Nat.le_refl _, fun hC _ _ _ _ _ _ hn => syo_istore hC hd (sy_blt (sy_and hb).2) (sy_and hb).1 hn⟩
      · cases h
    · cases h
  | 6, hok, h =>
    simp only [sy_step] at h
    split at h
    · rename_i q r
      split at h
      · rename_i hb
        cases h
        obtain ⟨i, rfl, hd⟩ := hok
        exact ⟨Nat.le_refl _, Nat.le_refl _, fun hC _ _ _ _ _ _ hn => syo_astore hC hd (sy_blt hb) hn⟩
      · cases h
    · cases h
  | 7, hok, h =>
    simp only [sy_step] at h
    split at h
    · rename_i x hx
      split at h
      · rename_i hb
        cases h
        exact ⟨Nat.le_refl _, Nat.le_refl _, fun hC _ _ _ _ _ _ hn => syo_iinc hC hok (sy_blt hb) hx hn⟩
      · cases h
    · cases h
  | 8, hok, h =>
    simp only [sy_step] at h
    cases h
    obtain ⟨off, hd, ht⟩ := hok
    exact ⟨Nat.le_refl _, Nat.le_refl _, fun hC _ _ _ _ _ _ hn => syo_goto hC hd ht hn⟩
  | 9, hok, h =>
    simp only [sy_step] at h
    split at h
    · rename_i y x r
      split at h
      · rename_i hb
        cases h
        obtain ⟨off, hd, ht⟩ := hok
        exact ⟨Nat.le_refl _, Nat.le_refl _, fun hC _ _ _ _ _ _ hn => syo_icmp hC hd ht (sy_blt (sy_and hb).1) (sy_blt (sy_and hb).2) hn⟩
      · cases h
    · cases h
  | 10, hok, h =>
    simp only [sy_step] at h
    split at h
    · rename_i N r
      split at h
      · rename_i hb
        cases h
        refine ⟨Nat.le_add_right _ _, Nat.le_add_right _ _, fun {_ _ _ _ _ _ _ _ _ _ _ D ca A al0} hC _ _ _ _ hc hk hn => ?_⟩
        rcases hok with ⟨rfl, hd, hw⟩ | ⟨rfl, hd, hw⟩ | ⟨rfl, hd, hw⟩
        · exact syo_newa (kd := 0) (x := ca 0) (ty := .int) (f := (_, .inl (fun _ => 0))) hC hd hw rfl (sy_blt hb) (by decide) rfl (fun _ => rfl) (fun _ => rfl) hc hk hn
        · exact syo_newa (kd := 1) (x := ca 1) (ty := .boolean) (f := (_, .inl (fun _ => 0))) hC hd hw rfl (sy_blt hb) (by decide) rfl (fun _ => rfl) (fun _ => rfl) hc hk hn
        · exact syo_newa (kd := 2) (x := ca 2) (ty := .long) (f := (_, .inr (.inl (fun _ => 0)))) hC hd hw rfl (sy_blt hb) (by decide) rfl (fun _ => rfl) (fun _ => rfl) hc hk hn
      · cases h
    · cases h
  | 11, hok, h =>
    simp only [sy_step] at h
    split at h
    · rename_i N r
      split at h
      · rename_i hb
        cases h
        obtain ⟨idx, hd, hw⟩ := hok
        exact ⟨Nat.le_add_right _ _, Nat.le_add_right _ _, fun hC _ _ _ _ hc hk hn => syo_newq hC hd hw (sy_blt hb) hc hk hn⟩
      · cases h
    · cases h
  | 12, hok, h =>
    simp only [sy_step] at h
    split at h
    · rename_i K N r
      split at h
      · rename_i hb
        cases h
        obtain ⟨idx, hd, hw, hw1⟩ := hok
        exact ⟨by omega, by omega, fun hC _ _ _ _ hc hk hn => syo_mna hC hd hw hw1 (sy_blt (sy_and hb).1) (sy_blt (sy_and hb).2) hc hk hn⟩
      · cases h
    · cases h
  | 13, hok, h =>
    simp only [sy_step] at h
    cases h
    obtain ⟨idx, hd, hw, hdo⟩ := hok
    exact ⟨Nat.le_add_right _ _, Nat.le_add_right _ _, fun hC _ _ _ _ hc hk hn => syo_new hC hd hdo hw hc hk hn⟩
  | 14, hok, h =>
    simp only [sy_step] at h
    split at h
    · rename_i q r
      split at h
      · rename_i ci fs hq
        split at h
        · rename_i hb hv
          cases h
          obtain ⟨idx, hd, hf⟩ := hok
          have hca := Nat.eq_of_beq_eq_true hb
          subst hca
          exact ⟨Nat.le_refl _, Nat.le_refl _, fun hC _ _ _ _ _ _ hn => syo_get hC hd hf hq hv hn⟩
        · cases h
      · cases h
    · cases h
  | 15, hok, h =>
    simp only [sy_step] at h
    split at h
    · rename_i v q r
      split at h
      · rename_i ci fs hq
        split at h
        · rename_i hb
          cases h
          obtain ⟨idx, hd, hf, hft⟩ := hok
          have hca := Nat.eq_of_beq_eq_true (sy_and hb).1
          subst hca
          exact ⟨Nat.le_refl _, Nat.le_refl _, fun hC hin _ _ _ _ _ hn => syo_put hC hin hd hf hft hq (sy_blt (sy_and (sy_and hb).2).1) (sy_and (sy_and hb).2).2 hn⟩
        · cases h
      · cases h
    · cases h
  | 16, hok, h =>
    simp only [sy_step] at h
    split at h
    · rename_i z i q r
      split at h
      · rename_i N fs hq
        split at h
        · rename_i hb
          cases h
          exact ⟨Nat.le_refl _, Nat.le_refl _, fun hC _ _ _ _ _ _ hn => syo_iast hC hok hq (sy_blt (sy_and hb).1) (sy_blt (sy_and hb).2) hn⟩
        · cases h
      · cases h
    · cases h
  | 17, hok, h =>
    simp only [sy_step] at h
    split at h
    · rename_i v i q r
      split at h
      · rename_i N fs gs hq hv
        split at h
        · rename_i hb
          cases h
          exact ⟨Nat.le_refl _, Nat.le_refl _, fun hC _ _ _ _ _ _ hn => syo_aast hC hok hq hv (sy_blt (sy_and hb).1) (sy_blt (sy_and hb).2) hn⟩
        · cases h
      · cases h
    · cases h
  | 18, hok, h =>
    simp only [sy_step] at h
    split at h
    · rename_i q
      cases h
      obtain ⟨idx, hd, w1, w2, w3⟩ := hok
      exact ⟨Nat.le_refl _, Nat.le_refl _, fun hC _ hnl hR hR2 _ _ hn => syo_obj hC hd hnl w1 w2 w3 hR hR2 hn⟩
    · cases h
  | op + 19, hok, h =>
    simp [sy_step] at h
def sy_lk : List sy_R → Nat → Option sy_R
  | [], _ => none
  | r :: rs, pc => (match Nat.beq r.1 pc with
    | true => some r
    | false => sy_lk rs pc)
theorem sy_lk_mem : ∀ {rs : List sy_R} {pc : Nat} {r : sy_R}, sy_lk rs pc = some r → r ∈ rs ∧ r.1 = pc
  | [], pc, r, h => by cases h
  | r0 :: rs, pc, r, h => by
    simp only [sy_lk] at h
    split at h
    · rename_i hb
      cases h
      exact ⟨List.mem_cons_self, Nat.eq_of_beq_eq_true hb⟩
    · exact ⟨List.mem_cons_of_mem _ (sy_lk_mem h).1, (sy_lk_mem h).2⟩
/-- the arguments of a call -/
def sy_tkn (nA mx : Nat) (st : List sv) : Option (Nat × List sv × List sv) := match st.drop nA with
  | (3, q) :: rest => (match Nat.beq (st.take nA).length nA && (Nat.ble rest.length 4 && ((st.take nA).all (fun v => !(Nat.beq v.1 2)) && Nat.blt nA mx)) with
    | true => some (q, (st.take nA).reverse, rest)
    | false => none)
  | _ => none
theorem sy_tkn_ok {nA mx q : Nat} {st as rest : List sv} (h : sy_tkn nA mx st = some (q, as, rest)) : st = as.reverse ++ (3, q) :: rest ∧ as.length = nA ∧ rest.length ≤ 4 ∧ (((3, q) :: as : List sv).all fun v => !(Nat.beq v.1 2)) = true ∧ ((3, q) :: as).length ≤ mx := by
  simp only [sy_tkn] at h
  split at h
  · rename_i q' rest' hd
    split at h
    · rename_i hb
      cases h
      obtain ⟨b1, hb⟩ := sy_and hb
      obtain ⟨b2, hb⟩ := sy_and hb
      obtain ⟨b3, b4⟩ := sy_and hb
      have e1 := Nat.eq_of_beq_eq_true b1
      refine ⟨by rw [List.reverse_reverse, ← hd, List.take_append_drop], by rw [List.length_reverse]; exact e1, Nat.le_of_ble_eq_true b2, ?_, by rw [List.length_cons, List.length_reverse, e1]; exact sy_blt b4⟩
      rw [List.all_cons, List.all_reverse, b3]
      rfl
    · cases h
  · cases h
abbrev sy_F : Type := Nat → Nat → Nat → List sv → List sv → List sc → Nat → Nat → Option (List sc × Nat × Nat)
def sy_body (T : Nat → List sy_R) (go : sy_F) (d id pc : Nat) (ls st : List sv) (sw : List sc) (n k : Nat) : Option (List sc × Nat × Nat) := match sy_lk (T id) pc with
  | none => none
  | some r => (match r.2.1 with
    | 20 => (match st with
      | [] => some (sw, n, k)
      | _ => none)
    | 19 => (match d, sy_tkn r.2.2.2.1 (ab_mi r.2.2.1).2.2.1 st with
      | d' + 1, some (q, as, rest) => (match go d' r.2.2.1 0 (((3, q) :: as) ++ List.replicate ((ab_mi r.2.2.1).2.2.1 - ((3, q) :: as).length) (9, 0)) [] sw 0 0 with
        | some (sw', n', k') => go (d' + 1) id (pc + 3) ls rest sw' (n + n') (k + k')
        | none => none)
      | _, _ => none)
    | _ => (match sy_step (ab_mi id).2.2.1 ls st sw n k r with
      | some (pc', ls', st', sw', n', k') => go d id pc' ls' st' sw' n' k'
      | none => none))
def sy_run (T : Nat → List sy_R) : Nat → sy_F
  | 0 => fun _ _ _ _ _ _ _ _ => none
  | f + 1 => sy_body T (sy_run T f)
theorem sy_run_ok {T : Nat → List sy_R} (hT : ∀ id, ∀ r ∈ T id, sy_okR (ab_mi id) r) : ∀ (f d id pc : Nat) (ls st : List sv) (sw : List sc) (n k : Nat) (sw' : List sc) (n' k' : Nat), sy_run T f d id pc ls st sw n k = some (sw', n', k') → n ≤ n' ∧ k ≤ k' ∧ sy_Go d id pc ls st sw n k sw' n' k'
  | 0, d, id, pc, ls, st, sw, n, k, sw', n', k', h => by cases h
  | f + 1, d, id, pc, ls, st, sw, n, k, sw', n', k', h0 => by
    have h : sy_body T (sy_run T f) d id pc ls st sw n k = some (sw', n', k') := h0
    clear h0
    unfold sy_body at h
    split at h
    · cases h
    · rename_i r hr
      obtain ⟨hm, hpc⟩ := sy_lk_mem hr
      have hok := hT id r hm
      obtain ⟨pc0, op, a, b, t⟩ := r
      have hpc : pc0 = pc := hpc
      subst hpc
      split at h
      · rename_i hop
        have hop : op = 20 := hop
        subst hop
        split at h
        · cases h
          exact ⟨Nat.le_refl _, Nat.le_refl _, fun p l e R s m args below meth c D ca A al0 hC hin _ _ _ _ => syo_ret hC hok.1 hok.2⟩
        · cases h
      · rename_i hop
        have hop : op = 19 := hop
        subst hop
        split at h
        · rename_i d' q as rest htk
          obtain ⟨k1, k2, k3, k4, k5⟩ := sy_tkn_ok htk
          split at h
          · rename_i sw1 n1 m1 hrun
            obtain ⟨idx, hd, hy⟩ := hok
            obtain ⟨-, -, hgo⟩ := sy_run_ok hT f d' a 0 _ _ _ _ _ _ _ _ hrun
            obtain ⟨i1, i2, i3⟩ := sy_run_ok hT f (d' + 1) id (pc0 + 3) _ _ _ _ _ _ _ _ h
            have hcall := sy_Call_of hy k4 k5 hgo
            refine ⟨by omega, by omega, fun p l e R s m args below meth c D ca A al0 hC hin hR hR2 hc hk => ?_⟩
            exact syo_call (d := d') hC hd hy hcall k1 k2 k3 hR hR2 rfl (by omega) (by omega) (i3 p l e R s m args below meth c D ca A al0 hC hin hR hR2 hc hk)
          · cases h
        · cases h
      · split at h
        · rename_i pc1 ls1 st1 sw1 n1 m1 hst
          obtain ⟨s1, s2, s3⟩ := sy_step_ok hok hst
          obtain ⟨i1, i2, i3⟩ := sy_run_ok hT f d id pc1 _ _ _ _ _ _ _ _ h
          refine ⟨by omega, by omega, fun p l e R s m args below meth c D ca A al0 hC hin hR hR2 hc hk => ?_⟩
          exact s3 hC hin rfl (by omega) (by omega) (by omega) (by omega) (i3 p l e R s m args below meth c D ca A al0 hC hin hR hR2 hc hk)
        · cases h
