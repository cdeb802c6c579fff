/-! ===== any instruction; any stretch of code; a call ===== -/
section ABT
variable {mi : ab_I} {d pc : Nat} {K : ab_K} {nx tg : ab_P} {ls : ab_L} {st : List ab_V} {M : ab_M}
/-- links of a class: fields, virtual calls, static calls, ints, longs, the static row, copying -/
abbrev ab_LK : Type := List (Nat × Nat × Nat) × List (Nat × Nat × Nat × Nat) × List (Nat × Nat × Nat) × List (Nat × Int) × List (Nat × Int) × List Nat × List Nat × List Nat
def ab_okL (own : String) (L : ab_LK) : Prop :=
  (∀ q ∈ L.1, ab_okF own q.1 q.2.1 q.2.2) ∧ (∀ q ∈ L.2.1, ab_okN own q.1 q.2.1 q.2.2.1 q.2.2.2) ∧ (∀ q ∈ L.2.2.1, ab_okS own q.1 q.2.1 q.2.2) ∧ (∀ q ∈ L.2.2.2.1, Cond.constant own q.1 (ab_cv q.2) ∈ ab_tb) ∧ (∀ q ∈ L.2.2.2.2.1, Cond.constantLong own q.1 (Int64.ofInt q.2) ∈ ab_tb) ∧ (∀ q ∈ L.2.2.2.2.2.1, Cond.fieldLink own q "PaperTrail$Odds" "FACTORIALS" "[I" ∈ ab_tb) ∧ (∀ q ∈ L.2.2.2.2.2.2.1, Cond.methodLink own q arraycopyName ∈ ab_tb) ∧ ∀ q ∈ L.2.2.2.2.2.2.2, Cond.methodLink own q Lib.Math.min.name ∈ ab_tb ∧ Cond.static Lib.Math.min.name ∈ ab_tb ∧ Cond.initialized "java/lang/Math" ∈ ab_tb ∧ Cond.code Lib.Math.min.name Lib.Math.min.code 2 (some .int) ∈ ab_tb
def ab_okJ (pc : Nat) (off : Int) : Bool := match off with
  | .ofNat _ => true
  | .negSucc k => Nat.ble (k + 1) pc
def ab_okR (n : Int) : Bool := decide (-32768 ≤ n) && decide (n ≤ 32767)
def ab_okI (mi : ab_I) (L : ab_LK) (pc : Nat) (ins : Instr) (len a b : Nat) (c : Int) : Bool := match ins with
  | .iconst n => Nat.beq len 1 && decide (Int32.ofInt n = ab_cv n) && ab_okR n
  | .bipush n => Nat.beq len 2 && decide ((Int8.ofInt n).toInt32 = ab_cv n) && ab_okR n
  | .sipush n => Nat.beq len 3 && decide ((Int16.ofInt n).toInt32 = ab_cv n) && ab_okR n
  | .lconst _ => Nat.beq len 1
  | .ldc i => Nat.beq len 2 && L.2.2.2.1.contains (i, c)
  | .ldc_w i => Nat.beq len 3 && L.2.2.2.1.contains (i, c)
  | .ldc2_w i => Nat.beq len 3 && L.2.2.2.2.1.contains (i, c)
  | .iload_n _ => Nat.beq len 1
  | .iload _ => Nat.beq len 2
  | .lload_n _ => Nat.beq len 1
  | .lload _ => Nat.beq len 2
  | .aload_n _ => Nat.beq len 1
  | .aload _ => Nat.beq len 2
  | .istore_n k => Nat.beq len 1 && Nat.blt k.val mi.2.2.1
  | .istore k => Nat.beq len 2 && Nat.blt k mi.2.2.1
  | .lstore_n k => Nat.beq len 1 && Nat.blt (k.val + 1) mi.2.2.1
  | .lstore k => Nat.beq len 2 && Nat.blt (k + 1) mi.2.2.1
  | .astore_n k => Nat.beq len 1 && Nat.blt k.val mi.2.2.1
  | .astore k => Nat.beq len 2 && Nat.blt k mi.2.2.1
  | .iinc k n => Nat.beq len 3 && decide (Int32.ofInt n = ab_cv n) && Nat.blt k mi.2.2.1
  | .iadd => Nat.beq len 1
  | .isub => Nat.beq len 1
  | .imul => Nat.beq len 1
  | .iand => Nat.beq len 1
  | .ior => Nat.beq len 1
  | .ixor => Nat.beq len 1
  | .ishl => Nat.beq len 1
  | .ishr => Nat.beq len 1
  | .iushr => Nat.beq len 1
  | .idiv => Nat.beq len 1
  | .irem => Nat.beq len 1
  | .ineg => Nat.beq len 1
  | .i2l => Nat.beq len 1
  | .i2b => Nat.beq len 1
  | .l2i => Nat.beq len 1
  | .ladd => Nat.beq len 1
  | .lsub => Nat.beq len 1
  | .lmul => Nat.beq len 1
  | .ldiv => Nat.beq len 1
  | .lrem => Nat.beq len 1
  | .lcmp => Nat.beq len 1
  | .dup => Nat.beq len 1
  | .dup2 => Nat.beq len 1
  | .iaload => Nat.beq len 1
  | .baload => Nat.beq len 1
  | .laload => Nat.beq len 1
  | .aaload => Nat.beq len 1
  | .arraylength => Nat.beq len 1
  | .iastore => Nat.beq len 1
  | .bastore => Nat.beq len 1
  | .lastore => Nat.beq len 1
  | .getfield i => Nat.beq len 3 && L.1.contains (i, a, b)
  | .putfield i => Nat.beq len 3 && L.1.contains (i, a, b)
  | .getstatic i => Nat.beq len 3 && L.2.2.2.2.2.1.contains i
  | .invokevirtual i => Nat.beq len 3 && (match b with
    | 0 => false
    | b + 1 => L.2.1.contains (i, a, b, c.toNat))
  | .invokestatic i => Nat.beq len 3 && (match Nat.beq b 99 with
    | true => L.2.2.2.2.2.2.1.contains i
    | false => (match Nat.beq b 98 with
      | true => L.2.2.2.2.2.2.2.contains i
      | false => L.2.2.1.contains (i, a, b)))
  | .ifCond _ off => Nat.beq len 3 && ab_okJ pc off
  | .if_icmp _ off => Nat.beq len 3 && ab_okJ pc off
  | .goto off => Nat.beq len 3 && ab_okJ pc off
  | .tableswitch df lo hi os => decide (hi + 1 = lo + os.toList.length) && ab_okR lo && ab_okR hi && (df :: os.toList).all (ab_okJ pc)
  | .ireturn => Nat.beq len 1 && (match mi.2.2.2 with
    | some .int => true
    | some .boolean => true
    | _ => false)
  | .lreturn => Nat.beq len 1 && (match mi.2.2.2 with
    | some .long => true
    | _ => false)
  | .return_ => Nat.beq len 1 && (match mi.2.2.2 with
    | none => true
    | _ => false)
  | _ => true
def ab_okE (mi : ab_I) (L : ab_LK) (e : ab_E) : Bool := decide (decode mi.2.1 e.1 = .ok (e.2.1, e.2.2.1)) && ab_okI mi L e.1 e.2.1 e.2.2.1 e.2.2.2.1 e.2.2.2.2.1 e.2.2.2.2.2
theorem ab_okR_use {n : Int} (h : ab_okR n = true) : ab_okV (.inl n) := by
  simp only [ab_okR, Bool.and_eq_true, decide_eq_true_eq] at h
  exact h
theorem ab_lk_ok {r : List (Nat × ab_P)} (hr : ∀ q ∈ r, ab_N mi d K q.2 q.1) (t : Nat) : ab_N mi d K (ab_lk r t) t := by
  induction r with
  | nil => exact fun _ _ _ h => h.elim
  | cons q r ih =>
    obtain ⟨p, f⟩ := q
    intro ls st M h
    have h : (match Nat.beq p t with
      | true => f
      | false => ab_lk r t) ls st M := h
    cases hb : Nat.beq p t with
    | true =>
      rw [hb] at h
      have hp : p = t := Nat.eq_of_beq_eq_true hb
      subst hp
      exact hr _ List.mem_cons_self _ _ _ h
    | false =>
      rw [hb] at h
      exact ih (fun q hq => hr q (List.mem_cons_of_mem _ hq)) _ _ _ h
theorem ab_jp_ok {cut : Nat → ab_P} {r : List (Nat × ab_P)} (hr : ∀ q ∈ r, ab_N mi d K q.2 q.1) (hc : ∀ t, ab_N mi d K (cut t) t) (off : Int) (h : ab_okJ pc off = true) : ∃ t : Nat, (pc : Int) + off = t ∧ ab_N mi d K (ab_jp cut r pc off) t := by
  cases off with
  | ofNat k => exact ⟨pc + k, by simp, ab_lk_ok hr _⟩
  | negSucc k =>
    have hk : k + 1 ≤ pc := Nat.le_of_ble_eq_true h
    exact ⟨pc - (k + 1), by omega, hc _⟩
theorem ab_mk_gl : ∀ (bs : List Bool) (ls : ab_L) (k : Nat) (v : ab_V), ab_gl (ab_mk bs ls) k = some v → ∃ w, ab_gl ls k = some w ∧ v = ab_nr w
  | [], ls, k, v, h => by simp [ab_mk, ab_gl] at h
  | b :: bs, [], 0, v, h => by simp [ab_mk, ab_gl] at h
  | b :: bs, [], k + 1, v, h => by
    obtain ⟨w, h1, h2⟩ := ab_mk_gl bs [] k v h
    exact ⟨w, by cases k <;> exact h1, h2⟩
  | true :: bs, x :: xs, 0, v, h => by
    have h : x.map ab_nr = some v := h
    cases x with
    | none => cases h
    | some w => exact ⟨w, rfl, (Option.some.inj h).symm⟩
  | true :: bs, x :: xs, k + 1, v, h => ab_mk_gl bs xs k v h
  | false :: bs, x :: xs, 0, v, h => by cases h
  | false :: bs, x :: xs, k + 1, v, h => ab_mk_gl bs xs k v h
theorem ab_cut_ok {cs : ab_C} (t : Nat) : ab_N mi d K (ab_cut mi cs d K t) t := by
  intro ls st M h
  unfold ab_cut at h
  split at h
  · rename_i bs hcs
    intro p l e s m args below meth c G H locs lr hC hW hL hO
    refine h p l e s m args below meth c G H locs lr hC hW ⟨hL.1, hL.2.1, fun k v hv => ?_⟩ ⟨fun k v hv => ?_, hO.2⟩
    · obtain ⟨w, h1, h2⟩ := ab_mk_gl _ _ _ _ hv
      rw [h2, ab_rv_nr]
      exact hL.2.2 k w h1
    · obtain ⟨w, h1, h2⟩ := ab_mk_gl _ _ _ _ hv
      rw [h2]
      exact ab_okV_nr (hO.1 k w h1)
  · exact h.elim
theorem ab_len_use {len n : Nat} {b : Bool} (h : (Nat.beq len n && b) = true) : len = n ∧ b = true := by
  rw [Bool.and_eq_true] at h
  exact ⟨Nat.eq_of_beq_eq_true h.1, h.2⟩
theorem ab_step_ok {L : ab_LK} (hL : ab_okL mi.1.cls L) {cut : Nat → ab_P} {e : ab_E} {r : List (Nat × ab_P)} (he : ab_okE mi L e = true) (hr : ∀ q ∈ r, ab_N mi d K q.2 q.1) (hc : ∀ t, ab_N mi d K (cut t) t) : ab_N mi d K (ab_step mi d K cut e r) e.1 := by
  obtain ⟨pc, ins, len, a, b, c⟩ := e
  simp only [ab_okE, Bool.and_eq_true, decide_eq_true_eq] at he
  obtain ⟨hd, hi⟩ := he
  intro ls st M h
  replace h : ab_stp mi d K (ab_lk r (pc + len)) (ab_jp cut r pc) a b c ins ls st M := h
  have hn : ab_N mi d K (ab_lk r (pc + len)) (pc + len) := ab_lk_ok hr _
  have hj := fun off => ab_jp_ok (pc := pc) hr hc off
  generalize ab_lk r (pc + len) = nx at h hn
  generalize ab_jp cut r pc = jp at h hj
  obtain ⟨lF, lV, lS, lC, lJ, lG, lA, lM⟩ := hL
  show ab_At mi d pc ls st M K
  have one : ∀ {n : Nat}, Nat.beq len n = true → len = n := fun q => Nat.eq_of_beq_eq_true q
  cases ins <;> try exact h.elim
  case iconst n =>
    simp only [ab_okI, Bool.and_eq_true, decide_eq_true_eq] at hi
    have e := one hi.1.1
    subst e
    exact abo_iconst hd hi.1.2 (ab_okR_use hi.2) hn h
  case bipush n =>
    simp only [ab_okI, Bool.and_eq_true, decide_eq_true_eq] at hi
    have e := one hi.1.1
    subst e
    exact abo_bipush hd hi.1.2 (ab_okR_use hi.2) hn h
  case sipush n =>
    simp only [ab_okI, Bool.and_eq_true, decide_eq_true_eq] at hi
    have e := one hi.1.1
    subst e
    exact abo_sipush hd hi.1.2 (ab_okR_use hi.2) hn h
  case lconst n =>
    have e := one hi
    subst e
    exact abo_lconst hd hn h
  case ldc i =>
    simp only [ab_okI, Bool.and_eq_true] at hi
    have e := one hi.1
    subst e
    exact abo_ldc hd (lC _ (List.contains_iff_mem.mp hi.2)) hn h
  case ldc_w i =>
    simp only [ab_okI, Bool.and_eq_true] at hi
    have e := one hi.1
    subst e
    exact abo_ldcw hd (lC _ (List.contains_iff_mem.mp hi.2)) hn h
  case ldc2_w i =>
    simp only [ab_okI, Bool.and_eq_true] at hi
    have e := one hi.1
    subst e
    exact abo_ldc2 hd (lJ _ (List.contains_iff_mem.mp hi.2)) hn h
  case iload_n k =>
    have e := one hi
    subst e
    exact abo_iload (Or.inr ⟨k, rfl, hd, rfl⟩) hn h
  case iload k =>
    have e := one hi
    subst e
    exact abo_iload (Or.inl ⟨hd, rfl⟩) hn h
  case lload_n k =>
    have e := one hi
    subst e
    exact abo_lload (Or.inr ⟨k, rfl, hd, rfl⟩) hn h
  case lload k =>
    have e := one hi
    subst e
    exact abo_lload (Or.inl ⟨hd, rfl⟩) hn h
  case aload_n k =>
    have e := one hi
    subst e
    exact abo_aload (Or.inr ⟨k, rfl, hd, rfl⟩) hn h
  case aload k =>
    have e := one hi
    subst e
    exact abo_aload (Or.inl ⟨hd, rfl⟩) hn h
  case istore_n k =>
    simp only [ab_okI, Bool.and_eq_true] at hi
    have e := one hi.1
    subst e
    exact abo_istore (Or.inr ⟨k, rfl, hd, rfl⟩) (Nat.le_of_ble_eq_true hi.2) hn h
  case istore k =>
    simp only [ab_okI, Bool.and_eq_true] at hi
    have e := one hi.1
    subst e
    exact abo_istore (Or.inl ⟨hd, rfl⟩) (Nat.le_of_ble_eq_true hi.2) hn h
  case lstore_n k =>
    simp only [ab_okI, Bool.and_eq_true] at hi
    have e := one hi.1
    subst e
    exact abo_lstore (Or.inr ⟨k, rfl, hd, rfl⟩) (Nat.le_of_ble_eq_true hi.2) hn h
  case lstore k =>
    simp only [ab_okI, Bool.and_eq_true] at hi
    have e := one hi.1
    subst e
    exact abo_lstore (Or.inl ⟨hd, rfl⟩) (Nat.le_of_ble_eq_true hi.2) hn h
  case astore_n k =>
    simp only [ab_okI, Bool.and_eq_true] at hi
    have e := one hi.1
    subst e
    exact abo_astore (Or.inr ⟨k, rfl, hd, rfl⟩) (Nat.le_of_ble_eq_true hi.2) hn h
  case astore k =>
    simp only [ab_okI, Bool.and_eq_true] at hi
    have e := one hi.1
    subst e
    exact abo_astore (Or.inl ⟨hd, rfl⟩) (Nat.le_of_ble_eq_true hi.2) hn h
  case iinc k n =>
    simp only [ab_okI, Bool.and_eq_true, decide_eq_true_eq] at hi
    have e := one hi.1.1
    subst e
    simp only [ab_stp] at h
    split at h
    · rename_i v hg
      split at h
      · rename_i x hx
        exact abo_iinc hd hi.1.2 (Nat.le_of_ble_eq_true hi.2) hn hg hx h
      · exact h.elim
    · exact h.elim
  case iadd =>
    have e := one hi
    subst e
    exact abo_bin (fun p l e s m args below meth c H locs lr Q rest x y hx hb k => lv_iadd hx hb hd k) hn h
  case isub =>
    have e := one hi
    subst e
    exact abo_bin (fun p l e s m args below meth c H locs lr Q rest x y hx hb k => lv_isub hx hb hd k) hn h
  case imul =>
    have e := one hi
    subst e
    exact abo_bin (fun p l e s m args below meth c H locs lr Q rest x y hx hb k => lv_imul hx hb hd k) hn h
  case iand =>
    have e := one hi
    subst e
    exact abo_bin (fun p l e s m args below meth c H locs lr Q rest x y hx hb k => lv_iand hx hb hd k) hn h
  case ior =>
    have e := one hi
    subst e
    exact abo_bin (fun p l e s m args below meth c H locs lr Q rest x y hx hb k => lv_ior hx hb hd k) hn h
  case ixor =>
    have e := one hi
    subst e
    exact abo_bin (fun p l e s m args below meth c H locs lr Q rest x y hx hb k => lv_ixor hx hb hd k) hn h
  case ishl =>
    have e := one hi
    subst e
    exact abo_bin (fun p l e s m args below meth c H locs lr Q rest x y hx hb k => lv_ishl hx hb hd k) hn h
  case ishr =>
    have e := one hi
    subst e
    exact abo_bin (fun p l e s m args below meth c H locs lr Q rest x y hx hb k => lv_ishr hx hb hd k) hn h
  case iushr =>
    have e := one hi
    subst e
    exact abo_bin (fun p l e s m args below meth c H locs lr Q rest x y hx hb k => lv_iushr hx hb hd rfl k) hn h
  case idiv =>
    have e := one hi
    subst e
    exact abo_dv (fun p l e s m args below meth c H locs lr Q rest x y hx hb h0 k => lv_idiv hx hb hd h0 k) hn h
  case irem =>
    have e := one hi
    subst e
    exact abo_dv (fun p l e s m args below meth c H locs lr Q rest x y hx hb h0 k => lv_irem hx hb hd h0 k) hn h
  case ineg =>
    have e := one hi
    subst e
    exact abo_un (f := fun x => vi (-x)) (fun _ => trivial) (fun p l e s m args below meth c G H locs lr Q rest x hx hb k => lv_ineg hx hb hd k) hn h
  case i2l =>
    have e := one hi
    subst e
    exact abo_un (f := fun x => vl x.toInt64) (fun _ => trivial) (fun p l e s m args below meth c G H locs lr Q rest x hx hb k => lv_i2l hx hb hd rfl k) hn h
  case i2b =>
    have e := one hi
    subst e
    exact abo_un (f := fun x => vi x.toInt8.toInt32) (fun _ => trivial) (fun p l e s m args below meth c G H locs lr Q rest x hx hb k => lv_i2b hx hb hd rfl k) hn h
  case l2i =>
    have e := one hi
    subst e
    simp only [ab_stp] at h
    split at h
    · exact abo_l2i hd hn h
    · exact h.elim
  case ladd =>
    have e := one hi
    subst e
    exact abo_lbin (fun p l e s m args below meth c H locs lr Q rest x y hx hb k => lv_ladd hx hb hd k) hn h
  case lsub =>
    have e := one hi
    subst e
    exact abo_lbin (fun p l e s m args below meth c H locs lr Q rest x y hx hb k => lv_lsub hx hb hd k) hn h
  case lmul =>
    have e := one hi
    subst e
    exact abo_lbin (fun p l e s m args below meth c H locs lr Q rest x y hx hb k => lv_lmul hx hb hd k) hn h
  case ldiv =>
    have e := one hi
    subst e
    exact abo_ldv (fun p l e s m args below meth c H locs lr Q rest x y hx hb h0 k => lv_ldiv hx hb hd h0 k) hn h
  case lrem =>
    have e := one hi
    subst e
    exact abo_ldv (fun p l e s m args below meth c H locs lr Q rest x y hx hb h0 k => lv_lrem hx hb hd h0 k) hn h
  case lcmp =>
    have e := one hi
    subst e
    exact abo_lcmp hd hn h
  case dup =>
    have e := one hi
    subst e
    exact abo_dup hd hn h
  case dup2 =>
    have e := one hi
    subst e
    exact abo_dup2 hd hn h
  case iaload =>
    have e := one hi
    subst e
    exact abo_iald hd hn h
  case baload =>
    have e := one hi
    subst e
    exact abo_zald hd hn h
  case laload =>
    have e := one hi
    subst e
    exact abo_lald hd hn h
  case aaload =>
    have e := one hi
    subst e
    exact abo_aald hd hn h
  case arraylength =>
    have e := one hi
    subst e
    exact abo_alen hd hn h
  case iastore =>
    have e := one hi
    subst e
    exact abo_iast hd hn h
  case bastore =>
    have e := one hi
    subst e
    exact abo_zast hd hn h
  case lastore =>
    have e := one hi
    subst e
    exact abo_last hd hn h
  case getfield i =>
    simp only [ab_okI, Bool.and_eq_true] at hi
    have e := one hi.1
    subst e
    exact abo_getf hd (lF _ (List.contains_iff_mem.mp hi.2)) hn h
  case putfield i =>
    simp only [ab_okI, Bool.and_eq_true] at hi
    have e := one hi.1
    subst e
    exact abo_putf hd (lF _ (List.contains_iff_mem.mp hi.2)) hn h
  case getstatic i =>
    simp only [ab_okI, Bool.and_eq_true] at hi
    have e := one hi.1
    subst e
    exact abo_gets hd (lG _ (List.contains_iff_mem.mp hi.2)) hn h
  case invokevirtual i =>
    simp only [ab_okI, Bool.and_eq_true] at hi
    have e := one hi.1
    subst e
    cases b with
    | zero => exact absurd hi.2 (fun q => Bool.noConfusion q)
    | succ b => exact abo_invV hd (lV _ (List.contains_iff_mem.mp hi.2)) hn h
  case invokestatic i =>
    simp only [ab_okI, Bool.and_eq_true] at hi
    have e := one hi.1
    subst e
    have hi2 := hi.2
    replace h : (match Nat.beq b 99 with
      | true => ab_acp d nx
      | false => (match Nat.beq b 98 with
        | true => ab_mn d nx
        | false => ab_inv d a b nx (fun _ => true))) ls st M := h
    cases hb : Nat.beq b 99 with
    | true =>
      rw [hb] at hi2 h
      exact abo_acp hd (lA _ (List.contains_iff_mem.mp hi2)) hn h
    | false =>
      rw [hb] at hi2 h
      cases hb2 : Nat.beq b 98 with
      | true =>
        rw [hb2] at hi2 h
        obtain ⟨m1, m2, m3, m4⟩ := lM _ (List.contains_iff_mem.mp hi2)
        exact abo_mn hd m1 m2 m3 m4 hn h
      | false =>
        rw [hb2] at hi2 h
        exact abo_invS hd (lS _ (List.contains_iff_mem.mp hi2)) hn h
  case ifCond cd off =>
    simp only [ab_okI, Bool.and_eq_true] at hi
    have e := one hi.1
    subst e
    obtain ⟨t, ht, hN⟩ := hj off hi.2
    exact abo_if0 hd ht hN hn h
  case if_icmp cd off =>
    simp only [ab_okI, Bool.and_eq_true] at hi
    have e := one hi.1
    subst e
    obtain ⟨t, ht, hN⟩ := hj off hi.2
    exact abo_if2 hd ht hN hn h
  case goto off =>
    simp only [ab_okI, Bool.and_eq_true] at hi
    have e := one hi.1
    subst e
    obtain ⟨t, ht, hN⟩ := hj off hi.2
    exact abo_goto hd ht hN h
  case tableswitch df lo hi2 os =>
    simp only [ab_okI, Bool.and_eq_true, decide_eq_true_eq] at hi
    obtain ⟨⟨⟨i1, i2⟩, i3⟩, i4⟩ := hi
    simp only [ab_stp] at h
    split at h
    · rename_i v rest
      split at h
      · rename_i x hx
        exact abo_tsw hd i1 (ab_okR_use i2).1 (ab_okR_use i3).2 (fun off ho => hj off (List.all_eq_true.mp i4 off ho)) hx h
      · exact h.elim
    · exact h.elim
  case ireturn =>
    simp only [ab_okI, Bool.and_eq_true] at hi
    have e := one hi.1
    subst e
    refine abo_ret (Or.inl rfl) hd ?_ h
    have h2 := hi.2
    split at h2
    · rename_i hr
      rw [hr]
    · rename_i hr
      rw [hr]
    · cases h2
  case lreturn =>
    simp only [ab_okI, Bool.and_eq_true] at hi
    have e := one hi.1
    subst e
    refine abo_ret (Or.inr (Or.inl rfl)) hd ?_ h
    have h2 := hi.2
    split at h2
    · rename_i hr
      rw [hr]
    · cases h2
  case return_ =>
    simp only [ab_okI, Bool.and_eq_true] at hi
    have e := one hi.1
    subst e
    refine abo_ret (Or.inr (Or.inr rfl)) hd ?_ h
    have h2 := hi.2
    split at h2
    · rename_i hr
      rw [hr]
    · cases h2
theorem ab_sm_ok {L : ab_LK} (hL : ab_okL mi.1.cls L) (cs : ab_C) : ∀ es : List ab_E, es.all (ab_okE mi L) = true → ∀ q ∈ ab_sm mi cs d K es, ab_N mi d K q.2 q.1
  | [], _, q, hq => by cases hq
  | e :: es, he, q, hq => by
    rw [List.all_cons, Bool.and_eq_true] at he
    have ih := ab_sm_ok hL cs es he.2
    rw [ab_sm, List.mem_cons] at hq
    rcases hq with e1 | hq
    · subst e1
      intro ls st M h
      replace h : (match ab_has cs e.1 with
        | some _ => ab_cut mi cs d K e.1
        | none => ab_step mi d K (ab_cut mi cs d K) e (ab_sm mi cs d K es)) ls st M := h
      cases hb : ab_has cs e.1 with
      | some n =>
        rw [hb] at h
        exact ab_cut_ok _ _ _ _ h
      | none =>
        rw [hb] at h
        exact ab_step_ok hL he.1 ih (fun t => ab_cut_ok t) _ _ _ h
    · exact ih q hq
theorem ab_vc_ok {L : ab_LK} (hL : ab_okL mi.1.cls L) (cs : ab_C) : ∀ es : List ab_E, es.all (ab_okE mi L) = true → ∀ pc, ab_N mi d K (ab_vc mi cs d K es pc) pc
  | [], _, pc => fun _ _ _ h => h.elim
  | e :: es, he, pc => by
    rw [List.all_cons, Bool.and_eq_true] at he
    intro ls st M h
    replace h : (match Nat.beq e.1 pc with
      | true => ab_step mi d K (ab_cut mi cs d K) e (ab_sm mi cs d K es)
      | false => ab_vc mi cs d K es pc) ls st M := h
    cases hb : Nat.beq e.1 pc with
    | true =>
      rw [hb] at h
      have hp : e.1 = pc := Nat.eq_of_beq_eq_true hb
      subst hp
      exact ab_step_ok hL he.1 (ab_sm_ok hL cs es he.2) (fun t => ab_cut_ok t) _ _ _ h
    | false =>
      rw [hb] at h
      exact ab_vc_ok hL cs es he.2 pc _ _ _ h
/-- a call's arguments, as locals -/
theorem ab_lo_mem {G : ab_G} : ∀ (as : List ab_V) (i k : Nat) (v : ab_V), ab_gl (ab_lo as) k = some v → (i + k, ab_rv G v) ∈ lv_args i (as.map (ab_rv G)) ∧ v ∈ as
  | [], i, k, v, h => by simp [ab_lo, ab_gl] at h
  | .inl n :: as, i, 0, v, h => by
    have h : some (.inl n) = some v := h
    cases h
    exact ⟨List.mem_cons_self, List.mem_cons_self⟩
  | .inl n :: as, i, k + 1, v, h => by
    obtain ⟨h1, h2⟩ := ab_lo_mem as (i + 1) k v h
    exact ⟨List.mem_cons_of_mem _ (by rw [show i + (k + 1) = i + 1 + k by omega]; exact h1), List.mem_cons_of_mem _ h2⟩
  | .inr (.inl x) :: as, i, 0, v, h => by
    have h : some (vi x) = some v := h
    cases h
    exact ⟨List.mem_cons_self, List.mem_cons_self⟩
  | .inr (.inl x) :: as, i, k + 1, v, h => by
    obtain ⟨h1, h2⟩ := ab_lo_mem as (i + 1) k v h
    exact ⟨List.mem_cons_of_mem _ (by rw [show i + (k + 1) = i + 1 + k by omega]; exact h1), List.mem_cons_of_mem _ h2⟩
  | .inr (.inr (.inl x)) :: as, i, 0, v, h => by
    have h : some (vl x) = some v := h
    cases h
    exact ⟨List.mem_cons_self, List.mem_cons_self⟩
  | .inr (.inr (.inl x)) :: as, i, 1, v, h => by cases h
  | .inr (.inr (.inl x)) :: as, i, k + 2, v, h => by
    obtain ⟨h1, h2⟩ := ab_lo_mem as (i + 2) k v h
    exact ⟨List.mem_cons_of_mem _ (by rw [show i + (k + 2) = i + 2 + k by omega]; exact h1), List.mem_cons_of_mem _ h2⟩
  | .inr (.inr (.inr q)) :: as, i, 0, v, h => by
    have h : some (.inr (.inr (.inr q))) = some v := h
    cases h
    exact ⟨List.mem_cons_self, List.mem_cons_self⟩
  | .inr (.inr (.inr q)) :: as, i, k + 1, v, h => by
    obtain ⟨h1, h2⟩ := ab_lo_mem as (i + 1) k v h
    exact ⟨List.mem_cons_of_mem _ (by rw [show i + (k + 1) = i + 1 + k by omega]; exact h1), List.mem_cons_of_mem _ h2⟩
theorem ab_lo_len {G : ab_G} : ∀ as : List ab_V, (lg_sl (as.map (ab_rv G))).length = (ab_lo as).length
  | [] => rfl
  | .inl n :: as => by
    have := ab_lo_len (G := G) as
    simp only [lg_sl, ab_lo, List.map_cons, List.flatMap_cons, List.length_append, List.length_cons, ab_rv, Value.category] at this ⊢
    simp only [this]
    simp; omega
  | .inr (.inl x) :: as => by
    have := ab_lo_len (G := G) as
    simp only [lg_sl, ab_lo, List.map_cons, List.flatMap_cons, List.length_append, List.length_cons, ab_rv, Value.category] at this ⊢
    simp only [this]
    simp; omega
  | .inr (.inr (.inl x)) :: as => by
    have := ab_lo_len (G := G) as
    simp only [lg_sl, ab_lo, List.map_cons, List.flatMap_cons, List.length_append, List.length_cons, ab_rv, Value.category] at this ⊢
    simp only [this]
    simp; omega
  | .inr (.inr (.inr q)) :: as => by
    have := ab_lo_len (G := G) as
    simp only [lg_sl, ab_lo, List.map_cons, List.flatMap_cons, List.length_append, List.length_cons, ab_rv, Value.category] at this ⊢
    simp only [this]
    simp; omega
theorem ab_Call_at {id : Nat} {as : List ab_V} (hp : plainName (ab_mi id).1.cls = true) (hl : Nat.ble (ab_lo as).length (ab_mi id).2.2.1 = true) (h : ab_At (ab_mi id) d 0 (ab_lo as) [] M K) : ab_Call d id as M K := by
  intro hok l G
  refine Met.ofW (cc := (ab_mi id).2.1) (maxL := (ab_mi id).2.2.1) (ret := (ab_mi id).2.2.2) hp rfl ?_
  intro p e s m args below meth c s₁ B hml hv
  obtain ⟨rfl, w1, w2, w3, w4, w5, w6⟩ := hv
  have hts := atoms_spec (ws := ab_wd (ab_mi id)) B.pre
  have hown : s.vm.findClass (ab_mi id).1.cls = some m.cls := findClass_of_methodNamed B.named
  have hlen : (lg_sl (as.map (ab_rv G))).length ≤ (ab_mi id).2.2.1 := by rw [ab_lo_len]; exact Nat.le_of_ble_eq_true hl
  rw [lg_entry_eq]
  have hent := lv_entry (as.map (ab_rv G)) hlen
  have t1 : G.2.2.1 120 < s.heap.size := by
    obtain ⟨⟨cell, t1, -⟩, -⟩ := w4
    exact (Array.getElem?_eq_some_iff.mp t1).1
  have t2 : G.2.2.1 121 < s.heap.size := by
    obtain ⟨-, ⟨cell, t1, -⟩⟩ := w4
    exact (Array.getElem?_eq_some_iff.mp t1).1
  refine h p l e s m _ below meth c G s.heap [] _ ⟨B.exec, B.bytes, B.returns, hml, hown, fun w hw => hts w (List.mem_cons_of_mem _ hw), B.notSynchronized⟩ ⟨w1, w2, w3, va_S.rf, w4, w5, w6, t1, t2⟩ ⟨hent.1, hent.2.1, fun k v hk => ?_⟩ ⟨fun k v hk => hok v (ab_lo_mem (G := G) as 0 k v hk).2, fun v hv => by cases hv⟩
  have hm := (ab_lo_mem (G := G) as 0 k v hk).1
  rw [Nat.zero_add] at hm
  exact hent.2.2 _ hm
/-- an answer may be read as a number -/
theorem ab_Q_mono {G : ab_G} {K K' : ab_K} {a : Array Value} {s t : State} {o : Outcome} (hk : ∀ r M, K r M → ∃ r', r'.map (ab_rv G) = r.map (ab_rv G) ∧ ((∀ v, r = some v → ab_okV v) → ∀ v, r' = some v → ab_okV v) ∧ K' r' M) (h : ab_Q G K a s o t) : ab_Q G K' a s o t := by
  obtain ⟨r, M, h1, h2, h3, h4⟩ := h
  obtain ⟨r', e1, e2, e3⟩ := hk r M h3
  exact ⟨r', M, by rw [h1, e1], e2 h2, e3, h4⟩
end ABT
theorem ab_Call_mono {d id : Nat} {as : List ab_V} {M : ab_M} {K K' : ab_K} (hk : ∀ r M, K r M → ∃ r', (∀ G : ab_G, r'.map (ab_rv G) = r.map (ab_rv G)) ∧ ((∀ v, r = some v → ab_okV v) → ∀ v, r' = some v → ab_okV v) ∧ K' r' M) (h : ab_Call d id as M K) : ab_Call d id as M K' := by
  intro hok l G p e h1 h2 h3 s m args below h4 h5 h6 h7
  obtain ⟨n, o, a1, a2, a3, a4, a5⟩ := h hok l G p e h1 h2 h3 s m args below h4 h5 h6 h7
  refine ⟨n, o, a1, a2, a3, ab_Q_mono (fun r M q => ?_) a4, a5⟩
  obtain ⟨r', e1, e2, e3⟩ := hk r M q
  exact ⟨r', e1 G, e2, e3⟩
theorem ab_Call_nr {d id : Nat} {as : List ab_V} {M : ab_M} {K : ab_K} (h : ab_Call d id as M (fun r M => K (r.map ab_nr) M)) : ab_Call d id as M K := by
  refine ab_Call_mono (fun r M q => ⟨r.map ab_nr, fun G => ?_, fun hv v hr => ?_, q⟩) h
  · cases r with
    | none => rfl
    | some v => exact congrArg some (ab_rv_nr v)
  · cases r with
    | none => cases hr
    | some w =>
      have e : ab_nr w = v := Option.some.inj hr
      rw [← e]
      exact ab_okV_nr (hv w rfl)
theorem ab_Call_K {d id : Nat} {as : List ab_V} {M : ab_M} {K K' : ab_K} (hk : ∀ r M, K r M → K' r M) (h : ab_Call d id as M K) : ab_Call d id as M K' := ab_Call_mono (fun r M q => ⟨r, fun _ => rfl, fun h => h, hk r M q⟩) h
