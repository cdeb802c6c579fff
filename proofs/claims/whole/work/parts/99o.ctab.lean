/-! ===== constructors: their tables ===== -/
section RK
variable {mi : ab_I} {pc a b t : Nat}
theorem rk_al (k : Fin 4) (h : decode mi.2.1 pc = .ok (.aload_n k, 1)) (e : k.val = a) : sy_okR mi (pc, 0, a, 1, 0) := Or.inr ⟨k, e, h, rfl⟩
theorem rk_al2 (h : decode mi.2.1 pc = .ok (.aload a, 2)) : sy_okR mi (pc, 0, a, 2, 0) := Or.inl ⟨h, rfl⟩
theorem rk_il (k : Fin 4) (h : decode mi.2.1 pc = .ok (.iload_n k, 1)) (e : k.val = a) : sy_okR mi (pc, 1, a, 0, 0) := ⟨k, e, h⟩
theorem rk_ic (z : Int) (h : decode mi.2.1 pc = .ok (.iconst z, 1)) (h2 : Int32.ofInt z = sy_i (a, b)) (h3 : Nat.ble a 1 = true) : sy_okR mi (pc, 2, a, b, 1) := ⟨h3, z, Or.inl ⟨h, h2, rfl⟩⟩
theorem rk_bi (z : Int) (h : decode mi.2.1 pc = .ok (.bipush z, 2)) (h2 : (Int8.ofInt z).toInt32 = sy_i (a, b)) (h3 : Nat.ble a 1 = true) : sy_okR mi (pc, 2, a, b, 2) := ⟨h3, z, Or.inr (Or.inl ⟨h, h2, rfl⟩)⟩
theorem rk_si (z : Int) (h : decode mi.2.1 pc = .ok (.sipush z, 3)) (h2 : (Int16.ofInt z).toInt32 = sy_i (a, b)) (h3 : Nat.ble a 1 = true) : sy_okR mi (pc, 2, a, b, 3) := ⟨h3, z, Or.inr (Or.inr ⟨h, h2, rfl⟩)⟩
theorem rk_lc (k : Fin 2) (h : decode mi.2.1 pc = .ok (.lconst k, 1)) (e : k.val = a) : sy_okR mi (pc, 3, a, 0, 0) := ⟨k, e, h⟩
theorem rk_dup (h : decode mi.2.1 pc = .ok (.dup, 1)) : sy_okR mi (pc, 4, 0, 0, 0) := h
theorem rk_is (k : Fin 4) (h : decode mi.2.1 pc = .ok (.istore_n k, 1)) (e : k.val = a) : sy_okR mi (pc, 5, a, 0, 0) := ⟨k, e, h⟩
theorem rk_as (k : Fin 4) (h : decode mi.2.1 pc = .ok (.astore_n k, 1)) (e : k.val = a) : sy_okR mi (pc, 6, a, 0, 0) := ⟨k, e, h⟩
theorem rk_ii (h : decode mi.2.1 pc = .ok (.iinc a 1, 3)) : sy_okR mi (pc, 7, a, 0, 0) := h
theorem rk_go (z : Int) (h : decode mi.2.1 pc = .ok (.goto z, 3)) (e : (pc : Int) + z = (a : Int)) : sy_okR mi (pc, 8, a, 0, 0) := ⟨z, h, e⟩
theorem rk_ge (z : Int) (h : decode mi.2.1 pc = .ok (.if_icmp .ge z, 3)) (e : (pc : Int) + z = (a : Int)) : sy_okR mi (pc, 9, a, 0, 0) := ⟨z, h, e⟩
theorem rk_n0 (h : decode mi.2.1 pc = .ok (.newarray .int, 2)) (h2 : Cond.arrayClass .int ∈ ab_tb) : sy_okR mi (pc, 10, 0, 0, 0) := Or.inl ⟨rfl, h, h2⟩
theorem rk_n1 (h : decode mi.2.1 pc = .ok (.newarray .boolean, 2)) (h2 : Cond.arrayClass .boolean ∈ ab_tb) : sy_okR mi (pc, 10, 1, 0, 0) := Or.inr (Or.inl ⟨rfl, h, h2⟩)
theorem rk_n2 (h : decode mi.2.1 pc = .ok (.newarray .long, 2)) (h2 : Cond.arrayClass .long ∈ ab_tb) : sy_okR mi (pc, 10, 2, 0, 0) := Or.inr (Or.inr ⟨rfl, h, h2⟩)
theorem rk_an (x : Nat) (h : decode mi.2.1 pc = .ok (.anewarray x, 3)) (h2 : Cond.classLink mi.1.cls x "PaperTrail$Course" ∈ ab_tb) : sy_okR mi (pc, 11, 0, 0, 0) := ⟨x, h, h2⟩
theorem rk_mn (x : Nat) (h : decode mi.2.1 pc = .ok (.multianewarray x 2, 4)) (h2 : Cond.classLink mi.1.cls x "[[I" ∈ ab_tb) (h3 : Cond.arrayClass .int ∈ ab_tb) : sy_okR mi (pc, 12, 0, 0, 0) := ⟨x, h, h2, h3⟩
theorem rk_nw (x : Nat) (h : decode mi.2.1 pc = .ok (.new x, 3)) (h2 : ∀ q : vw_C, vwCl[a]? = some q → Cond.classLink mi.1.cls x q.1 ∈ ab_tb ∧ Cond.instantiable q.1 q.2.2 ∈ ab_tb ∧ Cond.initialized q.1 ∈ ab_tb) (h3 : sy_dok a (sy_df a)) : sy_okR mi (pc, 13, a, 0, 0) := ⟨x, h, h2, h3⟩
theorem rk_gf (x : Nat) (h : decode mi.2.1 pc = .ok (.getfield x, 3)) (h2 : ab_okF mi.1.cls x a b) : sy_okR mi (pc, 14, a, b, 0) := ⟨x, h, h2⟩
theorem rk_pf (x : Nat) (h : decode mi.2.1 pc = .ok (.putfield x, 3)) (h2 : ab_okF mi.1.cls x a b) (h3 : ∀ q : vw_C, vwCl[a]? = some q → ((q.2.1 b).2.2.2 = true → (q.2.1 b).1 = mi.1.cls) ∧ ∃ ty, parseFieldDescriptor (q.2.1 b).2.2.1 = some ty ∧ sy_tk ty t) : sy_okR mi (pc, 15, a, b, t) := ⟨x, h, h2, h3⟩
theorem rk_ia (h : decode mi.2.1 pc = .ok (.iastore, 1)) : sy_okR mi (pc, 16, 0, 0, 0) := h
theorem rk_aa (h : decode mi.2.1 pc = .ok (.aastore, 1)) : sy_okR mi (pc, 17, 0, 0, 0) := h
theorem sy_ob1 : Cond.instanceMethod objectInit ∈ ab_tb := (mt_1 (List.mem_of_getElem? (i := 21) rfl) rfl)
theorem sy_ob2 : Cond.code objectInit ⟨#[0xb1]⟩ 1 none ∈ ab_tb := (mt_1 (List.mem_of_getElem? (i := 22) rfl) rfl)
theorem rk_ob (x : Nat) (h : decode mi.2.1 pc = .ok (.invokespecial x, 3)) (h2 : Cond.methodLink mi.1.cls x objectInit ∈ ab_tb) : sy_okR mi (pc, 18, 0, 0, 0) := ⟨x, h, h2, sy_ob1, sy_ob2⟩
def sy_okZ (id nA : Nat) : Prop := Cond.code (ab_mi id).1 (ab_mi id).2.1 (ab_mi id).2.2.1 (ab_mi id).2.2.2 ∈ ab_tb ∧ Cond.initialized (ab_mi id).1.cls ∈ ab_tb ∧ Cond.instanceMethod (ab_mi id).1 ∈ ab_tb ∧ (ab_mi id).1.name = "<init>" ∧ (ab_mi id).2.2.2 = none ∧ ((ab_mi id).1.cls ≠ "java/lang/invoke/MethodHandle" ∧ (ab_mi id).1.cls ≠ "java/lang/invoke/VarHandle" ∧ (parseMethodDescriptor (ab_mi id).1.desc).map (fun d => d.parameters.length) = some nA) ∧ (ab_mi id).2.2.1 ≤ 20 ∧ plainName (ab_mi id).1.cls = true
theorem sy_okZ.full {own : String} {idx id nA : Nat} (h : sy_okZ id nA) (hl : Cond.methodLink own idx (ab_mi id).1 ∈ ab_tb) : sy_okY own idx id nA := ⟨h.1, h.2.1, h.2.2.1, hl, h.2.2.2⟩
theorem rk_ca (x : Nat) (h : decode mi.2.1 pc = .ok (.invokespecial x, 3)) (h2 : sy_okZ a b) (h3 : Cond.methodLink mi.1.cls x (ab_mi a).1 ∈ ab_tb) : sy_okR mi (pc, 19, a, b, 0) := ⟨x, h, h2.full h3⟩
theorem rk_rt (h : decode mi.2.1 pc = .ok (.return_, 1)) (e : mi.2.2.2 = none) : sy_okR mi (pc, 20, 0, 0, 0) := ⟨h, e⟩
end RK
theorem sy_ac0 : Cond.arrayClass .int ∈ ab_tb := (mt_1 (List.mem_of_getElem? (i := 40) rfl) rfl)
theorem sy_ac1 : Cond.arrayClass .boolean ∈ ab_tb := (mt_1 (List.mem_of_getElem? (i := 225) rfl) rfl)
theorem sy_ac2 : Cond.arrayClass .long ∈ ab_tb := (mt_5 (List.mem_of_getElem? (i := 185) rfl) rfl)
theorem sy_apk {a b : List sy_R} {P : sy_R → Prop} (ha : ∀ r ∈ a, P r) (hb : ∀ r ∈ b, P r) : ∀ r ∈ a ++ b, P r := fun r h => (List.mem_append.mp h).elim (ha r) (hb r)
def sy_cv : sv → Value
  | (0, n) => .int (nI n)
  | (2, n) => .long (lN n)
  | _ => .null
theorem sy_fs_cv (al : List Nat) : ∀ ds : List sv, (ds.all fun v => Nat.beq v.1 0 || (Nat.beq v.1 2 || Nat.beq v.1 4)) = true → sy_fs al ds (ds.map sy_cv)
  | [], _ => rfl
  | (a, b) :: ds, h => by
    rw [List.all_cons, Bool.and_eq_true] at h
    refine ⟨sy_cv (a, b), _, ?_, sy_fs_cv al ds h.2, rfl⟩
    match a, h.1 with
    | 0, _ => rfl
    | 2, _ => rfl
    | 4, _ => rfl
theorem sy_do0 : sy_dok 0 (sy_df 0) := ⟨_, tyX0, (sy_df 0).map sy_cv, rfl, tyX0_ok, by decide +kernel, fun al => sy_fs_cv al _ rfl, rfl⟩
theorem sy_ci0 : Cond.instantiable RX0 17 ∈ ab_tb ∧ Cond.initialized RX0 ∈ ab_tb := ⟨(mt_1 (List.mem_of_getElem? (i := 160) rfl) rfl), (mt_1 (List.mem_of_getElem? (i := 6) rfl) rfl)⟩
theorem sy_do1 : sy_dok 1 (sy_df 1) := ⟨_, tyX1, (sy_df 1).map sy_cv, rfl, tyX1_ok, by decide +kernel, fun al => sy_fs_cv al _ rfl, rfl⟩
theorem sy_ci1 : Cond.instantiable RX1 8 ∈ ab_tb ∧ Cond.initialized RX1 ∈ ab_tb := ⟨(mt_1 (List.mem_of_getElem? (i := 105) rfl) rfl), (mt_1 (List.mem_of_getElem? (i := 5) rfl) rfl)⟩
theorem sy_do2 : sy_dok 2 (sy_df 2) := ⟨_, tyX3, (sy_df 2).map sy_cv, rfl, tyX3_ok, by decide +kernel, fun al => sy_fs_cv al _ rfl, rfl⟩
theorem sy_ci2 : Cond.instantiable RX3 5 ∈ ab_tb ∧ Cond.initialized RX3 ∈ ab_tb := ⟨(mt_1 (List.mem_of_getElem? (i := 42) rfl) rfl), (mt_1 (List.mem_of_getElem? (i := 3) rfl) rfl)⟩
theorem sy_do3 : sy_dok 3 (sy_df 3) := ⟨_, tyX4, (sy_df 3).map sy_cv, rfl, tyX4_ok, by decide +kernel, fun al => sy_fs_cv al _ rfl, rfl⟩
theorem sy_ci3 : Cond.instantiable RX4 8 ∈ ab_tb ∧ Cond.initialized RX4 ∈ ab_tb := ⟨(mt_2 (List.mem_of_getElem? (i := 54) rfl) rfl), (mt_1 (List.mem_of_getElem? (i := 9) rfl) rfl)⟩
theorem sy_do4 : sy_dok 4 (sy_df 4) := ⟨_, tyX5, (sy_df 4).map sy_cv, rfl, tyX5_ok, by decide +kernel, fun al => sy_fs_cv al _ rfl, rfl⟩
theorem sy_ci4 : Cond.instantiable RX5 9 ∈ ab_tb ∧ Cond.initialized RX5 ∈ ab_tb := ⟨(mt_1 (List.mem_of_getElem? (i := 227) rfl) rfl), (mt_1 (List.mem_of_getElem? (i := 7) rfl) rfl)⟩
theorem sy_do5 : sy_dok 5 (sy_df 5) := ⟨_, tyX6, (sy_df 5).map sy_cv, rfl, tyX6_ok, by decide +kernel, fun al => sy_fs_cv al _ rfl, rfl⟩
theorem sy_ci5 : Cond.instantiable RX6 5 ∈ ab_tb ∧ Cond.initialized RX6 ∈ ab_tb := ⟨(mt_1 (List.mem_of_getElem? (i := 82) rfl) rfl), (mt_1 (List.mem_of_getElem? (i := 4) rfl) rfl)⟩
theorem sy_do6 : sy_dok 6 (sy_df 6) := ⟨_, tyX7, (sy_df 6).map sy_cv, rfl, tyX7_ok, by decide +kernel, fun al => sy_fs_cv al _ rfl, rfl⟩
theorem sy_ci6 : Cond.instantiable RX7 2 ∈ ab_tb ∧ Cond.initialized RX7 ∈ ab_tb := ⟨(mt_1 (List.mem_of_getElem? (i := 24) rfl) rfl), (mt_1 (List.mem_of_getElem? (i := 2) rfl) rfl)⟩
theorem sy_do7 : sy_dok 7 (sy_df 7) := ⟨_, tyX8, (sy_df 7).map sy_cv, rfl, tyX8_ok, by decide +kernel, fun al => sy_fs_cv al _ rfl, rfl⟩
theorem sy_ci7 : Cond.instantiable RX8 7 ∈ ab_tb ∧ Cond.initialized RX8 ∈ ab_tb := ⟨(mt_2 (List.mem_of_getElem? (i := 23) rfl) rfl), (mt_1 (List.mem_of_getElem? (i := 8) rfl) rfl)⟩
theorem sy_do8 : sy_dok 8 (sy_df 8) := ⟨_, tyX9, (sy_df 8).map sy_cv, rfl, tyX9_ok, by decide +kernel, fun al => sy_fs_cv al _ rfl, rfl⟩
theorem sy_ci8 : Cond.instantiable RX9 17 ∈ ab_tb ∧ Cond.initialized RX9 ∈ ab_tb := ⟨(mt_1 (List.mem_of_getElem? (i := 16) rfl) rfl), (mt_1 (List.mem_of_getElem? (i := 1) rfl) rfl)⟩
theorem sy_do9 : sy_dok 9 (sy_df 9) := ⟨_, tyX10, (sy_df 9).map sy_cv, rfl, tyX10_ok, by decide +kernel, fun al => sy_fs_cv al _ rfl, rfl⟩
theorem sy_ci9 : Cond.instantiable RX10 29 ∈ ab_tb ∧ Cond.initialized RX10 ∈ ab_tb := ⟨(mt_5 (List.mem_of_getElem? (i := 92) rfl) rfl), (mt_1 (List.mem_of_getElem? (i := 10) rfl) rfl)⟩
theorem sy_cy0 : sy_okZ 0 0 := ⟨(mt_1 (List.mem_of_getElem? (i := 163) rfl) rfl), (mt_1 (List.mem_of_getElem? (i := 6) rfl) rfl), (mt_1 (List.mem_of_getElem? (i := 162) rfl) rfl), rfl, rfl, ⟨by decide +kernel, by decide +kernel, by decide +kernel⟩, by decide +kernel, by decide +kernel⟩
theorem sy_cy20 : sy_okZ 20 0 := ⟨(mt_1 (List.mem_of_getElem? (i := 108) rfl) rfl), (mt_1 (List.mem_of_getElem? (i := 5) rfl) rfl), (mt_1 (List.mem_of_getElem? (i := 107) rfl) rfl), rfl, rfl, ⟨by decide +kernel, by decide +kernel, by decide +kernel⟩, by decide +kernel, by decide +kernel⟩
theorem sy_cy46 : sy_okZ 46 0 := ⟨(mt_1 (List.mem_of_getElem? (i := 45) rfl) rfl), (mt_1 (List.mem_of_getElem? (i := 3) rfl) rfl), (mt_1 (List.mem_of_getElem? (i := 44) rfl) rfl), rfl, rfl, ⟨by decide +kernel, by decide +kernel, by decide +kernel⟩, by decide +kernel, by decide +kernel⟩
theorem sy_cy58 : sy_okZ 58 2 := ⟨(mt_2 (List.mem_of_getElem? (i := 57) rfl) rfl), (mt_1 (List.mem_of_getElem? (i := 9) rfl) rfl), (mt_2 (List.mem_of_getElem? (i := 56) rfl) rfl), rfl, rfl, ⟨by decide +kernel, by decide +kernel, by decide +kernel⟩, by decide +kernel, by decide +kernel⟩
theorem sy_cy66 : sy_okZ 66 4 := ⟨(mt_1 (List.mem_of_getElem? (i := 230) rfl) rfl), (mt_1 (List.mem_of_getElem? (i := 7) rfl) rfl), (mt_1 (List.mem_of_getElem? (i := 229) rfl) rfl), rfl, rfl, ⟨by decide +kernel, by decide +kernel, by decide +kernel⟩, by decide +kernel, by decide +kernel⟩
theorem sy_cy73 : sy_okZ 73 1 := ⟨(mt_1 (List.mem_of_getElem? (i := 85) rfl) rfl), (mt_1 (List.mem_of_getElem? (i := 4) rfl) rfl), (mt_1 (List.mem_of_getElem? (i := 84) rfl) rfl), rfl, rfl, ⟨by decide +kernel, by decide +kernel, by decide +kernel⟩, by decide +kernel, by decide +kernel⟩
theorem sy_cy82 : sy_okZ 82 2 := ⟨(mt_1 (List.mem_of_getElem? (i := 27) rfl) rfl), (mt_1 (List.mem_of_getElem? (i := 2) rfl) rfl), (mt_1 (List.mem_of_getElem? (i := 26) rfl) rfl), rfl, rfl, ⟨by decide +kernel, by decide +kernel, by decide +kernel⟩, by decide +kernel, by decide +kernel⟩
theorem sy_cy94 : sy_okZ 94 3 := ⟨(mt_2 (List.mem_of_getElem? (i := 26) rfl) rfl), (mt_1 (List.mem_of_getElem? (i := 8) rfl) rfl), (mt_2 (List.mem_of_getElem? (i := 25) rfl) rfl), rfl, rfl, ⟨by decide +kernel, by decide +kernel, by decide +kernel⟩, by decide +kernel, by decide +kernel⟩
theorem sy_cy102 : sy_okZ 102 0 := ⟨(mt_1 (List.mem_of_getElem? (i := 19) rfl) rfl), (mt_1 (List.mem_of_getElem? (i := 1) rfl) rfl), (mt_1 (List.mem_of_getElem? (i := 18) rfl) rfl), rfl, rfl, ⟨by decide +kernel, by decide +kernel, by decide +kernel⟩, by decide +kernel, by decide +kernel⟩
theorem sy_cy160 : sy_okZ 160 0 := ⟨(mt_5 (List.mem_of_getElem? (i := 95) rfl) rfl), (mt_1 (List.mem_of_getElem? (i := 10) rfl) rfl), (mt_5 (List.mem_of_getElem? (i := 94) rfl) rfl), rfl, rfl, ⟨by decide +kernel, by decide +kernel, by decide +kernel⟩, by decide +kernel, by decide +kernel⟩
def sy_t0_0 : List sy_R := [(0, 0, 0, 1, 0), (1, 18, 0, 0, 0), (4, 0, 0, 1, 0), (5, 2, 0, 4, 1), (6, 10, 0, 0, 0), (8, 15, 0, 2, 2), (11, 0, 0, 1, 0), (12, 2, 0, 4, 1), (13, 10, 1, 0, 0), (15, 15, 0, 3, 2), (18, 0, 0, 1, 0), (19, 2, 0, 7, 2), (21, 10, 0, 0, 0), (23, 15, 0, 4, 2), (26, 0, 0, 1, 0), (27, 2, 0, 7, 2), (29, 10, 1, 0, 0), (31, 15, 0, 5, 2), (34, 0, 0, 1, 0), (35, 2, 0, 7, 2), (37, 10, 0, 0, 0), (39, 15, 0, 6, 2), (42, 0, 0, 1, 0), (43, 2, 0, 7, 2)]
theorem sy_k0_0 : ∀ r ∈ sy_t0_0, sy_okR miX0_init r := by
  unfold sy_t0_0
  refine List.forall_mem_cons.mpr ⟨rk_al 0 (by decide +kernel) rfl, ?_⟩
  refine List.forall_mem_cons.mpr ⟨rk_ob 3 (by decide +kernel) (mt_1 (List.mem_of_getElem? (i := 164) rfl) rfl), ?_⟩
  refine List.forall_mem_cons.mpr ⟨rk_al 0 (by decide +kernel) rfl, ?_⟩
  refine List.forall_mem_cons.mpr ⟨rk_ic 4 (by decide +kernel) (by decide +kernel) rfl, ?_⟩
  refine List.forall_mem_cons.mpr ⟨rk_n0 (by decide +kernel) sy_ac0, ?_⟩
  refine List.forall_mem_cons.mpr ⟨rk_pf 9 (by decide +kernel) ⟨_, rfl, by decide, (mt_1 (List.mem_of_getElem? (i := 168) rfl) rfl)⟩ (fun q hq => by cases hq; exact ⟨fun _ => rfl, _, tyX0_ok 2 (by decide), Or.inr (Or.inr ⟨rfl, fun x => ⟨rfl, rfl⟩⟩)⟩), ?_⟩
  refine List.forall_mem_cons.mpr ⟨rk_al 0 (by decide +kernel) rfl, ?_⟩
  refine List.forall_mem_cons.mpr ⟨rk_ic 4 (by decide +kernel) (by decide +kernel) rfl, ?_⟩
  refine List.forall_mem_cons.mpr ⟨rk_n1 (by decide +kernel) sy_ac1, ?_⟩
  refine List.forall_mem_cons.mpr ⟨rk_pf 15 (by decide +kernel) ⟨_, rfl, by decide, (mt_1 (List.mem_of_getElem? (i := 169) rfl) rfl)⟩ (fun q hq => by cases hq; exact ⟨fun _ => rfl, _, tyX0_ok 3 (by decide), Or.inr (Or.inr ⟨rfl, fun x => ⟨rfl, rfl⟩⟩)⟩), ?_⟩
  refine List.forall_mem_cons.mpr ⟨rk_al 0 (by decide +kernel) rfl, ?_⟩
  refine List.forall_mem_cons.mpr ⟨rk_bi 7 (by decide +kernel) (by decide +kernel) rfl, ?_⟩
  refine List.forall_mem_cons.mpr ⟨rk_n0 (by decide +kernel) sy_ac0, ?_⟩
  refine List.forall_mem_cons.mpr ⟨rk_pf 19 (by decide +kernel) ⟨_, rfl, by decide, (mt_1 (List.mem_of_getElem? (i := 170) rfl) rfl)⟩ (fun q hq => by cases hq; exact ⟨fun _ => rfl, _, tyX0_ok 4 (by decide), Or.inr (Or.inr ⟨rfl, fun x => ⟨rfl, rfl⟩⟩)⟩), ?_⟩
  refine List.forall_mem_cons.mpr ⟨rk_al 0 (by decide +kernel) rfl, ?_⟩
  refine List.forall_mem_cons.mpr ⟨rk_bi 7 (by decide +kernel) (by decide +kernel) rfl, ?_⟩
  refine List.forall_mem_cons.mpr ⟨rk_n1 (by decide +kernel) sy_ac1, ?_⟩
  refine List.forall_mem_cons.mpr ⟨rk_pf 22 (by decide +kernel) ⟨_, rfl, by decide, (mt_1 (List.mem_of_getElem? (i := 171) rfl) rfl)⟩ (fun q hq => by cases hq; exact ⟨fun _ => rfl, _, tyX0_ok 5 (by decide), Or.inr (Or.inr ⟨rfl, fun x => ⟨rfl, rfl⟩⟩)⟩), ?_⟩
  refine List.forall_mem_cons.mpr ⟨rk_al 0 (by decide +kernel) rfl, ?_⟩
  refine List.forall_mem_cons.mpr ⟨rk_bi 7 (by decide +kernel) (by decide +kernel) rfl, ?_⟩
  refine List.forall_mem_cons.mpr ⟨rk_n0 (by decide +kernel) sy_ac0, ?_⟩
  refine List.forall_mem_cons.mpr ⟨rk_pf 25 (by decide +kernel) ⟨_, rfl, by decide, (mt_1 (List.mem_of_getElem? (i := 173) rfl) rfl)⟩ (fun q hq => by cases hq; exact ⟨fun _ => rfl, _, tyX0_ok 6 (by decide), Or.inr (Or.inr ⟨rfl, fun x => ⟨rfl, rfl⟩⟩)⟩), ?_⟩
  refine List.forall_mem_cons.mpr ⟨rk_al 0 (by decide +kernel) rfl, ?_⟩
  refine List.forall_mem_cons.mpr ⟨rk_bi 7 (by decide +kernel) (by decide +kernel) rfl, ?_⟩
  exact fun _ h => absurd h List.not_mem_nil
def sy_t0_1 : List sy_R := [(45, 10, 0, 0, 0), (47, 15, 0, 7, 2), (50, 0, 0, 1, 0), (51, 2, 0, 7, 2), (53, 10, 0, 0, 0), (55, 15, 0, 8, 2), (58, 0, 0, 1, 0), (59, 2, 0, 7, 2), (61, 10, 0, 0, 0), (63, 15, 0, 9, 2), (66, 0, 0, 1, 0), (67, 2, 0, 7, 2), (69, 10, 0, 0, 0), (71, 15, 0, 10, 2), (74, 0, 0, 1, 0), (75, 2, 0, 4, 1), (76, 2, 0, 7, 2), (78, 12, 0, 0, 0), (82, 15, 0, 11, 2), (85, 0, 0, 1, 0), (86, 2, 0, 4, 1), (87, 2, 0, 7, 2), (89, 12, 0, 0, 0), (93, 15, 0, 12, 2)]
theorem sy_k0_1 : ∀ r ∈ sy_t0_1, sy_okR miX0_init r := by
  unfold sy_t0_1
  refine List.forall_mem_cons.mpr ⟨rk_n0 (by decide +kernel) sy_ac0, ?_⟩
  refine List.forall_mem_cons.mpr ⟨rk_pf 28 (by decide +kernel) ⟨_, rfl, by decide, (mt_1 (List.mem_of_getElem? (i := 174) rfl) rfl)⟩ (fun q hq => by cases hq; exact ⟨fun _ => rfl, _, tyX0_ok 7 (by decide), Or.inr (Or.inr ⟨rfl, fun x => ⟨rfl, rfl⟩⟩)⟩), ?_⟩
  refine List.forall_mem_cons.mpr ⟨rk_al 0 (by decide +kernel) rfl, ?_⟩
  refine List.forall_mem_cons.mpr ⟨rk_bi 7 (by decide +kernel) (by decide +kernel) rfl, ?_⟩
  refine List.forall_mem_cons.mpr ⟨rk_n0 (by decide +kernel) sy_ac0, ?_⟩
  refine List.forall_mem_cons.mpr ⟨rk_pf 31 (by decide +kernel) ⟨_, rfl, by decide, (mt_1 (List.mem_of_getElem? (i := 175) rfl) rfl)⟩ (fun q hq => by cases hq; exact ⟨fun _ => rfl, _, tyX0_ok 8 (by decide), Or.inr (Or.inr ⟨rfl, fun x => ⟨rfl, rfl⟩⟩)⟩), ?_⟩
  refine List.forall_mem_cons.mpr ⟨rk_al 0 (by decide +kernel) rfl, ?_⟩
  refine List.forall_mem_cons.mpr ⟨rk_bi 7 (by decide +kernel) (by decide +kernel) rfl, ?_⟩
  refine List.forall_mem_cons.mpr ⟨rk_n0 (by decide +kernel) sy_ac0, ?_⟩
  refine List.forall_mem_cons.mpr ⟨rk_pf 34 (by decide +kernel) ⟨_, rfl, by decide, (mt_1 (List.mem_of_getElem? (i := 176) rfl) rfl)⟩ (fun q hq => by cases hq; exact ⟨fun _ => rfl, _, tyX0_ok 9 (by decide), Or.inr (Or.inr ⟨rfl, fun x => ⟨rfl, rfl⟩⟩)⟩), ?_⟩
  refine List.forall_mem_cons.mpr ⟨rk_al 0 (by decide +kernel) rfl, ?_⟩
  refine List.forall_mem_cons.mpr ⟨rk_bi 7 (by decide +kernel) (by decide +kernel) rfl, ?_⟩
  refine List.forall_mem_cons.mpr ⟨rk_n0 (by decide +kernel) sy_ac0, ?_⟩
  refine List.forall_mem_cons.mpr ⟨rk_pf 37 (by decide +kernel) ⟨_, rfl, by decide, (mt_1 (List.mem_of_getElem? (i := 177) rfl) rfl)⟩ (fun q hq => by cases hq; exact ⟨fun _ => rfl, _, tyX0_ok 10 (by decide), Or.inr (Or.inr ⟨rfl, fun x => ⟨rfl, rfl⟩⟩)⟩), ?_⟩
  refine List.forall_mem_cons.mpr ⟨rk_al 0 (by decide +kernel) rfl, ?_⟩
  refine List.forall_mem_cons.mpr ⟨rk_ic 4 (by decide +kernel) (by decide +kernel) rfl, ?_⟩
  refine List.forall_mem_cons.mpr ⟨rk_bi 7 (by decide +kernel) (by decide +kernel) rfl, ?_⟩
  refine List.forall_mem_cons.mpr ⟨rk_mn 40 (by decide +kernel) (mt_1 (List.mem_of_getElem? (i := 165) rfl) rfl) sy_ac0, ?_⟩
  refine List.forall_mem_cons.mpr ⟨rk_pf 42 (by decide +kernel) ⟨_, rfl, by decide, (mt_1 (List.mem_of_getElem? (i := 178) rfl) rfl)⟩ (fun q hq => by cases hq; exact ⟨fun _ => rfl, _, tyX0_ok 11 (by decide), Or.inr (Or.inr ⟨rfl, fun x => ⟨rfl, rfl⟩⟩)⟩), ?_⟩
  refine List.forall_mem_cons.mpr ⟨rk_al 0 (by decide +kernel) rfl, ?_⟩
  refine List.forall_mem_cons.mpr ⟨rk_ic 4 (by decide +kernel) (by decide +kernel) rfl, ?_⟩
  refine List.forall_mem_cons.mpr ⟨rk_bi 7 (by decide +kernel) (by decide +kernel) rfl, ?_⟩
  refine List.forall_mem_cons.mpr ⟨rk_mn 40 (by decide +kernel) (mt_1 (List.mem_of_getElem? (i := 165) rfl) rfl) sy_ac0, ?_⟩
  refine List.forall_mem_cons.mpr ⟨rk_pf 45 (by decide +kernel) ⟨_, rfl, by decide, (mt_1 (List.mem_of_getElem? (i := 180) rfl) rfl)⟩ (fun q hq => by cases hq; exact ⟨fun _ => rfl, _, tyX0_ok 12 (by decide), Or.inr (Or.inr ⟨rfl, fun x => ⟨rfl, rfl⟩⟩)⟩), ?_⟩
  exact fun _ h => absurd h List.not_mem_nil
def sy_t0_2 : List sy_R := [(96, 0, 0, 1, 0), (97, 2, 0, 4, 1), (98, 10, 0, 0, 0), (100, 15, 0, 13, 2), (103, 0, 0, 1, 0), (104, 2, 0, 4, 1), (105, 10, 0, 0, 0), (107, 15, 0, 14, 2), (110, 0, 0, 1, 0), (111, 2, 0, 4, 1), (112, 10, 0, 0, 0), (114, 15, 0, 15, 2), (117, 0, 0, 1, 0), (118, 2, 0, 4, 1), (119, 10, 0, 0, 0), (121, 15, 0, 16, 2), (124, 20, 0, 0, 0)]
theorem sy_k0_2 : ∀ r ∈ sy_t0_2, sy_okR miX0_init r := by
  unfold sy_t0_2
  refine List.forall_mem_cons.mpr ⟨rk_al 0 (by decide +kernel) rfl, ?_⟩
  refine List.forall_mem_cons.mpr ⟨rk_ic 4 (by decide +kernel) (by decide +kernel) rfl, ?_⟩
  refine List.forall_mem_cons.mpr ⟨rk_n0 (by decide +kernel) sy_ac0, ?_⟩
  refine List.forall_mem_cons.mpr ⟨rk_pf 48 (by decide +kernel) ⟨_, rfl, by decide, (mt_1 (List.mem_of_getElem? (i := 182) rfl) rfl)⟩ (fun q hq => by cases hq; exact ⟨fun _ => rfl, _, tyX0_ok 13 (by decide), Or.inr (Or.inr ⟨rfl, fun x => ⟨rfl, rfl⟩⟩)⟩), ?_⟩
  refine List.forall_mem_cons.mpr ⟨rk_al 0 (by decide +kernel) rfl, ?_⟩
  refine List.forall_mem_cons.mpr ⟨rk_ic 4 (by decide +kernel) (by decide +kernel) rfl, ?_⟩
  refine List.forall_mem_cons.mpr ⟨rk_n0 (by decide +kernel) sy_ac0, ?_⟩
  refine List.forall_mem_cons.mpr ⟨rk_pf 51 (by decide +kernel) ⟨_, rfl, by decide, (mt_1 (List.mem_of_getElem? (i := 184) rfl) rfl)⟩ (fun q hq => by cases hq; exact ⟨fun _ => rfl, _, tyX0_ok 14 (by decide), Or.inr (Or.inr ⟨rfl, fun x => ⟨rfl, rfl⟩⟩)⟩), ?_⟩
  refine List.forall_mem_cons.mpr ⟨rk_al 0 (by decide +kernel) rfl, ?_⟩
  refine List.forall_mem_cons.mpr ⟨rk_ic 4 (by decide +kernel) (by decide +kernel) rfl, ?_⟩
  refine List.forall_mem_cons.mpr ⟨rk_n0 (by decide +kernel) sy_ac0, ?_⟩
  refine List.forall_mem_cons.mpr ⟨rk_pf 54 (by decide +kernel) ⟨_, rfl, by decide, (mt_1 (List.mem_of_getElem? (i := 186) rfl) rfl)⟩ (fun q hq => by cases hq; exact ⟨fun _ => rfl, _, tyX0_ok 15 (by decide), Or.inr (Or.inr ⟨rfl, fun x => ⟨rfl, rfl⟩⟩)⟩), ?_⟩
  refine List.forall_mem_cons.mpr ⟨rk_al 0 (by decide +kernel) rfl, ?_⟩
  refine List.forall_mem_cons.mpr ⟨rk_ic 4 (by decide +kernel) (by decide +kernel) rfl, ?_⟩
  refine List.forall_mem_cons.mpr ⟨rk_n0 (by decide +kernel) sy_ac0, ?_⟩
  refine List.forall_mem_cons.mpr ⟨rk_pf 57 (by decide +kernel) ⟨_, rfl, by decide, (mt_1 (List.mem_of_getElem? (i := 188) rfl) rfl)⟩ (fun q hq => by cases hq; exact ⟨fun _ => rfl, _, tyX0_ok 16 (by decide), Or.inr (Or.inr ⟨rfl, fun x => ⟨rfl, rfl⟩⟩)⟩), ?_⟩
  refine List.forall_mem_cons.mpr ⟨rk_rt (by decide +kernel) rfl, ?_⟩
  exact fun _ h => absurd h List.not_mem_nil
def sy_t0 : List sy_R := sy_t0_0 ++ sy_t0_1 ++ sy_t0_2
theorem sy_k0 : ∀ r ∈ sy_t0, sy_okR miX0_init r := sy_apk (sy_apk (sy_k0_0) sy_k0_1) sy_k0_2
def sy_t20_0 : List sy_R := [(0, 0, 0, 1, 0), (1, 18, 0, 0, 0), (4, 0, 0, 1, 0), (5, 2, 0, 7, 2), (7, 10, 0, 0, 0), (9, 15, 1, 4, 2), (12, 0, 0, 1, 0), (13, 2, 0, 8, 2), (15, 10, 0, 0, 0), (17, 15, 1, 5, 2), (20, 0, 0, 1, 0), (21, 2, 0, 8, 2), (23, 10, 0, 0, 0), (25, 15, 1, 6, 2), (28, 0, 0, 1, 0), (29, 2, 0, 8, 2), (31, 10, 0, 0, 0), (33, 15, 1, 7, 2), (36, 20, 0, 0, 0)]
theorem sy_k20_0 : ∀ r ∈ sy_t20_0, sy_okR miX1_init r := by
  unfold sy_t20_0
  refine List.forall_mem_cons.mpr ⟨rk_al 0 (by decide +kernel) rfl, ?_⟩
  refine List.forall_mem_cons.mpr ⟨rk_ob 3 (by decide +kernel) (mt_1 (List.mem_of_getElem? (i := 109) rfl) rfl), ?_⟩
  refine List.forall_mem_cons.mpr ⟨rk_al 0 (by decide +kernel) rfl, ?_⟩
  refine List.forall_mem_cons.mpr ⟨rk_bi 7 (by decide +kernel) (by decide +kernel) rfl, ?_⟩
  refine List.forall_mem_cons.mpr ⟨rk_n0 (by decide +kernel) sy_ac0, ?_⟩
  refine List.forall_mem_cons.mpr ⟨rk_pf 9 (by decide +kernel) ⟨_, rfl, by decide, (mt_1 (List.mem_of_getElem? (i := 127) rfl) rfl)⟩ (fun q hq => by cases hq; exact ⟨fun _ => rfl, _, tyX1_ok 4 (by decide), Or.inr (Or.inr ⟨rfl, fun x => ⟨rfl, rfl⟩⟩)⟩), ?_⟩
  refine List.forall_mem_cons.mpr ⟨rk_al 0 (by decide +kernel) rfl, ?_⟩
  refine List.forall_mem_cons.mpr ⟨rk_bi 8 (by decide +kernel) (by decide +kernel) rfl, ?_⟩
  refine List.forall_mem_cons.mpr ⟨rk_n0 (by decide +kernel) sy_ac0, ?_⟩
  refine List.forall_mem_cons.mpr ⟨rk_pf 15 (by decide +kernel) ⟨_, rfl, by decide, (mt_1 (List.mem_of_getElem? (i := 133) rfl) rfl)⟩ (fun q hq => by cases hq; exact ⟨fun _ => rfl, _, tyX1_ok 5 (by decide), Or.inr (Or.inr ⟨rfl, fun x => ⟨rfl, rfl⟩⟩)⟩), ?_⟩
  refine List.forall_mem_cons.mpr ⟨rk_al 0 (by decide +kernel) rfl, ?_⟩
  refine List.forall_mem_cons.mpr ⟨rk_bi 8 (by decide +kernel) (by decide +kernel) rfl, ?_⟩
  refine List.forall_mem_cons.mpr ⟨rk_n0 (by decide +kernel) sy_ac0, ?_⟩
  refine List.forall_mem_cons.mpr ⟨rk_pf 18 (by decide +kernel) ⟨_, rfl, by decide, (mt_1 (List.mem_of_getElem? (i := 135) rfl) rfl)⟩ (fun q hq => by cases hq; exact ⟨fun _ => rfl, _, tyX1_ok 6 (by decide), Or.inr (Or.inr ⟨rfl, fun x => ⟨rfl, rfl⟩⟩)⟩), ?_⟩
  refine List.forall_mem_cons.mpr ⟨rk_al 0 (by decide +kernel) rfl, ?_⟩
  refine List.forall_mem_cons.mpr ⟨rk_bi 8 (by decide +kernel) (by decide +kernel) rfl, ?_⟩
  refine List.forall_mem_cons.mpr ⟨rk_n0 (by decide +kernel) sy_ac0, ?_⟩
  refine List.forall_mem_cons.mpr ⟨rk_pf 21 (by decide +kernel) ⟨_, rfl, by decide, (mt_1 (List.mem_of_getElem? (i := 137) rfl) rfl)⟩ (fun q hq => by cases hq; exact ⟨fun _ => rfl, _, tyX1_ok 7 (by decide), Or.inr (Or.inr ⟨rfl, fun x => ⟨rfl, rfl⟩⟩)⟩), ?_⟩
  refine List.forall_mem_cons.mpr ⟨rk_rt (by decide +kernel) rfl, ?_⟩
  exact fun _ h => absurd h List.not_mem_nil
def sy_t20 : List sy_R := sy_t20_0
theorem sy_k20 : ∀ r ∈ sy_t20, sy_okR miX1_init r := sy_k20_0
def sy_t46_0 : List sy_R := [(0, 0, 0, 1, 0), (1, 18, 0, 0, 0), (4, 0, 0, 1, 0), (5, 2, 0, 4, 1), (6, 10, 0, 0, 0), (8, 15, 2, 3, 2), (11, 0, 0, 1, 0), (12, 2, 0, 7, 2), (14, 2, 0, 7, 2), (16, 12, 0, 0, 0), (20, 15, 2, 4, 2), (23, 20, 0, 0, 0)]
theorem sy_k46_0 : ∀ r ∈ sy_t46_0, sy_okR miX3_init r := by
  unfold sy_t46_0
  refine List.forall_mem_cons.mpr ⟨rk_al 0 (by decide +kernel) rfl, ?_⟩
  refine List.forall_mem_cons.mpr ⟨rk_ob 3 (by decide +kernel) (mt_1 (List.mem_of_getElem? (i := 46) rfl) rfl), ?_⟩
  refine List.forall_mem_cons.mpr ⟨rk_al 0 (by decide +kernel) rfl, ?_⟩
  refine List.forall_mem_cons.mpr ⟨rk_ic 4 (by decide +kernel) (by decide +kernel) rfl, ?_⟩
  refine List.forall_mem_cons.mpr ⟨rk_n0 (by decide +kernel) sy_ac0, ?_⟩
  refine List.forall_mem_cons.mpr ⟨rk_pf 9 (by decide +kernel) ⟨_, rfl, by decide, (mt_1 (List.mem_of_getElem? (i := 63) rfl) rfl)⟩ (fun q hq => by cases hq; exact ⟨fun _ => rfl, _, tyX3_ok 3 (by decide), Or.inr (Or.inr ⟨rfl, fun x => ⟨rfl, rfl⟩⟩)⟩), ?_⟩
  refine List.forall_mem_cons.mpr ⟨rk_al 0 (by decide +kernel) rfl, ?_⟩
  refine List.forall_mem_cons.mpr ⟨rk_bi 7 (by decide +kernel) (by decide +kernel) rfl, ?_⟩
  refine List.forall_mem_cons.mpr ⟨rk_bi 7 (by decide +kernel) (by decide +kernel) rfl, ?_⟩
  refine List.forall_mem_cons.mpr ⟨rk_mn 15 (by decide +kernel) (mt_1 (List.mem_of_getElem? (i := 47) rfl) rfl) sy_ac0, ?_⟩
  refine List.forall_mem_cons.mpr ⟨rk_pf 17 (by decide +kernel) ⟨_, rfl, by decide, (mt_1 (List.mem_of_getElem? (i := 67) rfl) rfl)⟩ (fun q hq => by cases hq; exact ⟨fun _ => rfl, _, tyX3_ok 4 (by decide), Or.inr (Or.inr ⟨rfl, fun x => ⟨rfl, rfl⟩⟩)⟩), ?_⟩
  refine List.forall_mem_cons.mpr ⟨rk_rt (by decide +kernel) rfl, ?_⟩
  exact fun _ h => absurd h List.not_mem_nil
def sy_t46 : List sy_R := sy_t46_0
theorem sy_k46 : ∀ r ∈ sy_t46, sy_okR miX3_init r := sy_k46_0
def sy_t58_0 : List sy_R := [(0, 0, 0, 1, 0), (1, 18, 0, 0, 0), (4, 0, 0, 1, 0), (5, 0, 1, 1, 0), (6, 15, 3, 0, 2), (9, 0, 0, 1, 0), (10, 0, 2, 1, 0), (11, 15, 3, 1, 2), (14, 0, 0, 1, 0), (15, 2, 0, 7, 2), (17, 10, 0, 0, 0), (19, 15, 3, 2, 2), (22, 20, 0, 0, 0)]
theorem sy_k58_0 : ∀ r ∈ sy_t58_0, sy_okR miX4_init r := by
  unfold sy_t58_0
  refine List.forall_mem_cons.mpr ⟨rk_al 0 (by decide +kernel) rfl, ?_⟩
  refine List.forall_mem_cons.mpr ⟨rk_ob 3 (by decide +kernel) (mt_2 (List.mem_of_getElem? (i := 58) rfl) rfl), ?_⟩
  refine List.forall_mem_cons.mpr ⟨rk_al 0 (by decide +kernel) rfl, ?_⟩
  refine List.forall_mem_cons.mpr ⟨rk_al 1 (by decide +kernel) rfl, ?_⟩
  refine List.forall_mem_cons.mpr ⟨rk_pf 9 (by decide +kernel) ⟨_, rfl, by decide, (mt_2 (List.mem_of_getElem? (i := 59) rfl) rfl)⟩ (fun q hq => by cases hq; exact ⟨fun _ => rfl, _, tyX4_ok 0 (by decide), Or.inr (Or.inr ⟨rfl, fun x => ⟨rfl, rfl⟩⟩)⟩), ?_⟩
  refine List.forall_mem_cons.mpr ⟨rk_al 0 (by decide +kernel) rfl, ?_⟩
  refine List.forall_mem_cons.mpr ⟨rk_al 2 (by decide +kernel) rfl, ?_⟩
  refine List.forall_mem_cons.mpr ⟨rk_pf 15 (by decide +kernel) ⟨_, rfl, by decide, (mt_2 (List.mem_of_getElem? (i := 60) rfl) rfl)⟩ (fun q hq => by cases hq; exact ⟨fun _ => rfl, _, tyX4_ok 1 (by decide), Or.inr (Or.inr ⟨rfl, fun x => ⟨rfl, rfl⟩⟩)⟩), ?_⟩
  refine List.forall_mem_cons.mpr ⟨rk_al 0 (by decide +kernel) rfl, ?_⟩
  refine List.forall_mem_cons.mpr ⟨rk_bi 7 (by decide +kernel) (by decide +kernel) rfl, ?_⟩
  refine List.forall_mem_cons.mpr ⟨rk_n0 (by decide +kernel) sy_ac0, ?_⟩
  refine List.forall_mem_cons.mpr ⟨rk_pf 19 (by decide +kernel) ⟨_, rfl, by decide, (mt_2 (List.mem_of_getElem? (i := 61) rfl) rfl)⟩ (fun q hq => by cases hq; exact ⟨fun _ => rfl, _, tyX4_ok 2 (by decide), Or.inr (Or.inr ⟨rfl, fun x => ⟨rfl, rfl⟩⟩)⟩), ?_⟩
  refine List.forall_mem_cons.mpr ⟨rk_rt (by decide +kernel) rfl, ?_⟩
  exact fun _ h => absurd h List.not_mem_nil
def sy_t58 : List sy_R := sy_t58_0
theorem sy_k58 : ∀ r ∈ sy_t58, sy_okR miX4_init r := sy_k58_0
def sy_t66_0 : List sy_R := [(0, 0, 0, 1, 0), (1, 18, 0, 0, 0), (4, 0, 0, 1, 0), (5, 0, 1, 1, 0), (6, 15, 4, 0, 2), (9, 0, 0, 1, 0), (10, 0, 2, 1, 0), (11, 15, 4, 1, 2), (14, 0, 0, 1, 0), (15, 0, 3, 1, 0), (16, 15, 4, 2, 2), (19, 0, 0, 1, 0), (20, 0, 4, 2, 0), (22, 15, 4, 3, 2), (25, 0, 0, 1, 0), (26, 2, 0, 24, 2), (28, 10, 0, 0, 0), (30, 15, 4, 4, 2), (33, 0, 0, 1, 0), (34, 2, 0, 3, 1), (35, 10, 0, 0, 0), (37, 15, 4, 6, 2), (40, 0, 0, 1, 0), (41, 2, 0, 9, 2)]
theorem sy_k66_0 : ∀ r ∈ sy_t66_0, sy_okR miX5_init r := by
  unfold sy_t66_0
  refine List.forall_mem_cons.mpr ⟨rk_al 0 (by decide +kernel) rfl, ?_⟩
  refine List.forall_mem_cons.mpr ⟨rk_ob 3 (by decide +kernel) (mt_1 (List.mem_of_getElem? (i := 231) rfl) rfl), ?_⟩
  refine List.forall_mem_cons.mpr ⟨rk_al 0 (by decide +kernel) rfl, ?_⟩
  refine List.forall_mem_cons.mpr ⟨rk_al 1 (by decide +kernel) rfl, ?_⟩
  refine List.forall_mem_cons.mpr ⟨rk_pf 9 (by decide +kernel) ⟨_, rfl, by decide, (mt_1 (List.mem_of_getElem? (i := 232) rfl) rfl)⟩ (fun q hq => by cases hq; exact ⟨fun _ => rfl, _, tyX5_ok 0 (by decide), Or.inr (Or.inr ⟨rfl, fun x => ⟨rfl, rfl⟩⟩)⟩), ?_⟩
  refine List.forall_mem_cons.mpr ⟨rk_al 0 (by decide +kernel) rfl, ?_⟩
  refine List.forall_mem_cons.mpr ⟨rk_al 2 (by decide +kernel) rfl, ?_⟩
  refine List.forall_mem_cons.mpr ⟨rk_pf 15 (by decide +kernel) ⟨_, rfl, by decide, (mt_1 (List.mem_of_getElem? (i := 233) rfl) rfl)⟩ (fun q hq => by cases hq; exact ⟨fun _ => rfl, _, tyX5_ok 1 (by decide), Or.inr (Or.inr ⟨rfl, fun x => ⟨rfl, rfl⟩⟩)⟩), ?_⟩
  refine List.forall_mem_cons.mpr ⟨rk_al 0 (by decide +kernel) rfl, ?_⟩
  refine List.forall_mem_cons.mpr ⟨rk_al 3 (by decide +kernel) rfl, ?_⟩
  refine List.forall_mem_cons.mpr ⟨rk_pf 19 (by decide +kernel) ⟨_, rfl, by decide, (mt_1 (List.mem_of_getElem? (i := 234) rfl) rfl)⟩ (fun q hq => by cases hq; exact ⟨fun _ => rfl, _, tyX5_ok 2 (by decide), Or.inr (Or.inr ⟨rfl, fun x => ⟨rfl, rfl⟩⟩)⟩), ?_⟩
  refine List.forall_mem_cons.mpr ⟨rk_al 0 (by decide +kernel) rfl, ?_⟩
  refine List.forall_mem_cons.mpr ⟨rk_al2 (by decide +kernel), ?_⟩
  refine List.forall_mem_cons.mpr ⟨rk_pf 22 (by decide +kernel) ⟨_, rfl, by decide, (mt_1 (List.mem_of_getElem? (i := 235) rfl) rfl)⟩ (fun q hq => by cases hq; exact ⟨fun _ => rfl, _, tyX5_ok 3 (by decide), Or.inr (Or.inr ⟨rfl, fun x => ⟨rfl, rfl⟩⟩)⟩), ?_⟩
  refine List.forall_mem_cons.mpr ⟨rk_al 0 (by decide +kernel) rfl, ?_⟩
  refine List.forall_mem_cons.mpr ⟨rk_bi 24 (by decide +kernel) (by decide +kernel) rfl, ?_⟩
  refine List.forall_mem_cons.mpr ⟨rk_n0 (by decide +kernel) sy_ac0, ?_⟩
  refine List.forall_mem_cons.mpr ⟨rk_pf 26 (by decide +kernel) ⟨_, rfl, by decide, (mt_1 (List.mem_of_getElem? (i := 236) rfl) rfl)⟩ (fun q hq => by cases hq; exact ⟨fun _ => rfl, _, tyX5_ok 4 (by decide), Or.inr (Or.inr ⟨rfl, fun x => ⟨rfl, rfl⟩⟩)⟩), ?_⟩
  refine List.forall_mem_cons.mpr ⟨rk_al 0 (by decide +kernel) rfl, ?_⟩
  refine List.forall_mem_cons.mpr ⟨rk_ic 3 (by decide +kernel) (by decide +kernel) rfl, ?_⟩
  refine List.forall_mem_cons.mpr ⟨rk_n0 (by decide +kernel) sy_ac0, ?_⟩
  refine List.forall_mem_cons.mpr ⟨rk_pf 30 (by decide +kernel) ⟨_, rfl, by decide, (mt_1 (List.mem_of_getElem? (i := 238) rfl) rfl)⟩ (fun q hq => by cases hq; exact ⟨fun _ => rfl, _, tyX5_ok 6 (by decide), Or.inr (Or.inr ⟨rfl, fun x => ⟨rfl, rfl⟩⟩)⟩), ?_⟩
  refine List.forall_mem_cons.mpr ⟨rk_al 0 (by decide +kernel) rfl, ?_⟩
  refine List.forall_mem_cons.mpr ⟨rk_bi 9 (by decide +kernel) (by decide +kernel) rfl, ?_⟩
  exact fun _ h => absurd h List.not_mem_nil
def sy_t66_1 : List sy_R := [(43, 10, 0, 0, 0), (45, 15, 4, 7, 2), (48, 20, 0, 0, 0)]
theorem sy_k66_1 : ∀ r ∈ sy_t66_1, sy_okR miX5_init r := by
  unfold sy_t66_1
  refine List.forall_mem_cons.mpr ⟨rk_n0 (by decide +kernel) sy_ac0, ?_⟩
  refine List.forall_mem_cons.mpr ⟨rk_pf 33 (by decide +kernel) ⟨_, rfl, by decide, (mt_2 (List.mem_of_getElem? (i := 0) rfl) rfl)⟩ (fun q hq => by cases hq; exact ⟨fun _ => rfl, _, tyX5_ok 7 (by decide), Or.inr (Or.inr ⟨rfl, fun x => ⟨rfl, rfl⟩⟩)⟩), ?_⟩
  refine List.forall_mem_cons.mpr ⟨rk_rt (by decide +kernel) rfl, ?_⟩
  exact fun _ h => absurd h List.not_mem_nil
def sy_t66 : List sy_R := sy_t66_0 ++ sy_t66_1
theorem sy_k66 : ∀ r ∈ sy_t66, sy_okR miX5_init r := sy_apk (sy_k66_0) sy_k66_1
def sy_t73_0 : List sy_R := [(0, 0, 0, 1, 0), (1, 18, 0, 0, 0), (4, 0, 0, 1, 0), (5, 0, 1, 1, 0), (6, 15, 5, 0, 2), (9, 0, 0, 1, 0), (10, 2, 0, 0, 1), (11, 10, 0, 0, 0), (13, 15, 5, 2, 2), (16, 20, 0, 0, 0)]
theorem sy_k73_0 : ∀ r ∈ sy_t73_0, sy_okR miX6_init r := by
  unfold sy_t73_0
  refine List.forall_mem_cons.mpr ⟨rk_al 0 (by decide +kernel) rfl, ?_⟩
  refine List.forall_mem_cons.mpr ⟨rk_ob 3 (by decide +kernel) (mt_1 (List.mem_of_getElem? (i := 86) rfl) rfl), ?_⟩
  refine List.forall_mem_cons.mpr ⟨rk_al 0 (by decide +kernel) rfl, ?_⟩
  refine List.forall_mem_cons.mpr ⟨rk_al 1 (by decide +kernel) rfl, ?_⟩
  refine List.forall_mem_cons.mpr ⟨rk_pf 9 (by decide +kernel) ⟨_, rfl, by decide, (mt_1 (List.mem_of_getElem? (i := 87) rfl) rfl)⟩ (fun q hq => by cases hq; exact ⟨fun _ => rfl, _, tyX6_ok 0 (by decide), Or.inr (Or.inr ⟨rfl, fun x => ⟨rfl, rfl⟩⟩)⟩), ?_⟩
  refine List.forall_mem_cons.mpr ⟨rk_al 0 (by decide +kernel) rfl, ?_⟩
  refine List.forall_mem_cons.mpr ⟨rk_ic 0 (by decide +kernel) (by decide +kernel) rfl, ?_⟩
  refine List.forall_mem_cons.mpr ⟨rk_n0 (by decide +kernel) sy_ac0, ?_⟩
  refine List.forall_mem_cons.mpr ⟨rk_pf 15 (by decide +kernel) ⟨_, rfl, by decide, (mt_1 (List.mem_of_getElem? (i := 90) rfl) rfl)⟩ (fun q hq => by cases hq; exact ⟨fun _ => rfl, _, tyX6_ok 2 (by decide), Or.inr (Or.inr ⟨rfl, fun x => ⟨rfl, rfl⟩⟩)⟩), ?_⟩
  refine List.forall_mem_cons.mpr ⟨rk_rt (by decide +kernel) rfl, ?_⟩
  exact fun _ h => absurd h List.not_mem_nil
def sy_t73 : List sy_R := sy_t73_0
theorem sy_k73 : ∀ r ∈ sy_t73, sy_okR miX6_init r := sy_k73_0
def sy_t82_0 : List sy_R := [(0, 0, 0, 1, 0), (1, 18, 0, 0, 0), (4, 0, 0, 1, 0), (5, 1, 1, 0, 0), (6, 1, 2, 0, 0), (7, 12, 0, 0, 0), (11, 15, 6, 0, 2), (14, 0, 0, 1, 0), (15, 1, 1, 0, 0), (16, 10, 0, 0, 0), (18, 15, 6, 1, 2), (21, 2, 0, 0, 1), (22, 5, 3, 0, 0), (23, 1, 3, 0, 0), (24, 1, 1, 0, 0), (25, 9, 41, 0, 0), (28, 0, 0, 1, 0), (29, 14, 6, 1, 0), (32, 1, 3, 0, 0), (33, 2, 1, 0, 1), (34, 16, 0, 0, 0), (35, 7, 3, 0, 0), (38, 8, 23, 0, 0), (41, 20, 0, 0, 0)]
theorem sy_k82_0 : ∀ r ∈ sy_t82_0, sy_okR miX7_init r := by
  unfold sy_t82_0
  refine List.forall_mem_cons.mpr ⟨rk_al 0 (by decide +kernel) rfl, ?_⟩
  refine List.forall_mem_cons.mpr ⟨rk_ob 1 (by decide +kernel) (mt_1 (List.mem_of_getElem? (i := 28) rfl) rfl), ?_⟩
  refine List.forall_mem_cons.mpr ⟨rk_al 0 (by decide +kernel) rfl, ?_⟩
  refine List.forall_mem_cons.mpr ⟨rk_il 1 (by decide +kernel) rfl, ?_⟩
  refine List.forall_mem_cons.mpr ⟨rk_il 2 (by decide +kernel) rfl, ?_⟩
  refine List.forall_mem_cons.mpr ⟨rk_mn 7 (by decide +kernel) (mt_1 (List.mem_of_getElem? (i := 29) rfl) rfl) sy_ac0, ?_⟩
  refine List.forall_mem_cons.mpr ⟨rk_pf 9 (by decide +kernel) ⟨_, rfl, by decide, (mt_1 (List.mem_of_getElem? (i := 31) rfl) rfl)⟩ (fun q hq => by cases hq; exact ⟨fun _ => rfl, _, tyX7_ok 0 (by decide), Or.inr (Or.inr ⟨rfl, fun x => ⟨rfl, rfl⟩⟩)⟩), ?_⟩
  refine List.forall_mem_cons.mpr ⟨rk_al 0 (by decide +kernel) rfl, ?_⟩
  refine List.forall_mem_cons.mpr ⟨rk_il 1 (by decide +kernel) rfl, ?_⟩
  refine List.forall_mem_cons.mpr ⟨rk_n0 (by decide +kernel) sy_ac0, ?_⟩
  refine List.forall_mem_cons.mpr ⟨rk_pf 14 (by decide +kernel) ⟨_, rfl, by decide, (mt_1 (List.mem_of_getElem? (i := 33) rfl) rfl)⟩ (fun q hq => by cases hq; exact ⟨fun _ => rfl, _, tyX7_ok 1 (by decide), Or.inr (Or.inr ⟨rfl, fun x => ⟨rfl, rfl⟩⟩)⟩), ?_⟩
  refine List.forall_mem_cons.mpr ⟨rk_ic 0 (by decide +kernel) (by decide +kernel) rfl, ?_⟩
  refine List.forall_mem_cons.mpr ⟨rk_is 3 (by decide +kernel) rfl, ?_⟩
  refine List.forall_mem_cons.mpr ⟨rk_il 3 (by decide +kernel) rfl, ?_⟩
  refine List.forall_mem_cons.mpr ⟨rk_il 1 (by decide +kernel) rfl, ?_⟩
  refine List.forall_mem_cons.mpr ⟨rk_ge 16 (by decide +kernel) (by decide), ?_⟩
  refine List.forall_mem_cons.mpr ⟨rk_al 0 (by decide +kernel) rfl, ?_⟩
  refine List.forall_mem_cons.mpr ⟨rk_gf 14 (by decide +kernel) ⟨_, rfl, by decide, (mt_1 (List.mem_of_getElem? (i := 33) rfl) rfl)⟩, ?_⟩
  refine List.forall_mem_cons.mpr ⟨rk_il 3 (by decide +kernel) rfl, ?_⟩
  refine List.forall_mem_cons.mpr ⟨rk_ic (-1) (by decide +kernel) (by decide +kernel) rfl, ?_⟩
  refine List.forall_mem_cons.mpr ⟨rk_ia (by decide +kernel), ?_⟩
  refine List.forall_mem_cons.mpr ⟨rk_ii (by decide +kernel), ?_⟩
  refine List.forall_mem_cons.mpr ⟨rk_go (-15) (by decide +kernel) (by decide), ?_⟩
  refine List.forall_mem_cons.mpr ⟨rk_rt (by decide +kernel) rfl, ?_⟩
  exact fun _ h => absurd h List.not_mem_nil
def sy_t82 : List sy_R := sy_t82_0
theorem sy_k82 : ∀ r ∈ sy_t82, sy_okR miX7_init r := sy_k82_0
def sy_t94_0 : List sy_R := [(0, 0, 0, 1, 0), (1, 18, 0, 0, 0), (4, 0, 0, 1, 0), (5, 0, 1, 1, 0), (6, 15, 7, 0, 2), (9, 0, 0, 1, 0), (10, 0, 2, 1, 0), (11, 15, 7, 1, 2), (14, 0, 0, 1, 0), (15, 0, 3, 1, 0), (16, 15, 7, 2, 2), (19, 0, 0, 1, 0), (20, 2, 0, 7, 2), (22, 10, 0, 0, 0), (24, 15, 7, 3, 2), (27, 0, 0, 1, 0), (28, 2, 0, 7, 2), (30, 10, 0, 0, 0), (32, 15, 7, 4, 2), (35, 20, 0, 0, 0)]
theorem sy_k94_0 : ∀ r ∈ sy_t94_0, sy_okR miX8_init r := by
  unfold sy_t94_0
  refine List.forall_mem_cons.mpr ⟨rk_al 0 (by decide +kernel) rfl, ?_⟩
  refine List.forall_mem_cons.mpr ⟨rk_ob 3 (by decide +kernel) (mt_2 (List.mem_of_getElem? (i := 27) rfl) rfl), ?_⟩
  refine List.forall_mem_cons.mpr ⟨rk_al 0 (by decide +kernel) rfl, ?_⟩
  refine List.forall_mem_cons.mpr ⟨rk_al 1 (by decide +kernel) rfl, ?_⟩
  refine List.forall_mem_cons.mpr ⟨rk_pf 9 (by decide +kernel) ⟨_, rfl, by decide, (mt_2 (List.mem_of_getElem? (i := 28) rfl) rfl)⟩ (fun q hq => by cases hq; exact ⟨fun _ => rfl, _, tyX8_ok 0 (by decide), Or.inr (Or.inr ⟨rfl, fun x => ⟨rfl, rfl⟩⟩)⟩), ?_⟩
  refine List.forall_mem_cons.mpr ⟨rk_al 0 (by decide +kernel) rfl, ?_⟩
  refine List.forall_mem_cons.mpr ⟨rk_al 2 (by decide +kernel) rfl, ?_⟩
  refine List.forall_mem_cons.mpr ⟨rk_pf 15 (by decide +kernel) ⟨_, rfl, by decide, (mt_2 (List.mem_of_getElem? (i := 29) rfl) rfl)⟩ (fun q hq => by cases hq; exact ⟨fun _ => rfl, _, tyX8_ok 1 (by decide), Or.inr (Or.inr ⟨rfl, fun x => ⟨rfl, rfl⟩⟩)⟩), ?_⟩
  refine List.forall_mem_cons.mpr ⟨rk_al 0 (by decide +kernel) rfl, ?_⟩
  refine List.forall_mem_cons.mpr ⟨rk_al 3 (by decide +kernel) rfl, ?_⟩
  refine List.forall_mem_cons.mpr ⟨rk_pf 19 (by decide +kernel) ⟨_, rfl, by decide, (mt_2 (List.mem_of_getElem? (i := 30) rfl) rfl)⟩ (fun q hq => by cases hq; exact ⟨fun _ => rfl, _, tyX8_ok 2 (by decide), Or.inr (Or.inr ⟨rfl, fun x => ⟨rfl, rfl⟩⟩)⟩), ?_⟩
  refine List.forall_mem_cons.mpr ⟨rk_al 0 (by decide +kernel) rfl, ?_⟩
  refine List.forall_mem_cons.mpr ⟨rk_bi 7 (by decide +kernel) (by decide +kernel) rfl, ?_⟩
  refine List.forall_mem_cons.mpr ⟨rk_n0 (by decide +kernel) sy_ac0, ?_⟩
  refine List.forall_mem_cons.mpr ⟨rk_pf 23 (by decide +kernel) ⟨_, rfl, by decide, (mt_2 (List.mem_of_getElem? (i := 31) rfl) rfl)⟩ (fun q hq => by cases hq; exact ⟨fun _ => rfl, _, tyX8_ok 3 (by decide), Or.inr (Or.inr ⟨rfl, fun x => ⟨rfl, rfl⟩⟩)⟩), ?_⟩
  refine List.forall_mem_cons.mpr ⟨rk_al 0 (by decide +kernel) rfl, ?_⟩
  refine List.forall_mem_cons.mpr ⟨rk_bi 7 (by decide +kernel) (by decide +kernel) rfl, ?_⟩
  refine List.forall_mem_cons.mpr ⟨rk_n0 (by decide +kernel) sy_ac0, ?_⟩
  refine List.forall_mem_cons.mpr ⟨rk_pf 27 (by decide +kernel) ⟨_, rfl, by decide, (mt_2 (List.mem_of_getElem? (i := 32) rfl) rfl)⟩ (fun q hq => by cases hq; exact ⟨fun _ => rfl, _, tyX8_ok 4 (by decide), Or.inr (Or.inr ⟨rfl, fun x => ⟨rfl, rfl⟩⟩)⟩), ?_⟩
  refine List.forall_mem_cons.mpr ⟨rk_rt (by decide +kernel) rfl, ?_⟩
  exact fun _ h => absurd h List.not_mem_nil
def sy_t94 : List sy_R := sy_t94_0
theorem sy_k94 : ∀ r ∈ sy_t94, sy_okR miX8_init r := sy_k94_0
def sy_t102_0 : List sy_R := [(0, 0, 0, 1, 0), (1, 18, 0, 0, 0), (4, 0, 0, 1, 0), (5, 13, 6, 0, 0), (8, 4, 0, 0, 0), (9, 2, 0, 6, 2), (11, 2, 0, 40, 2), (13, 19, 82, 2, 0), (16, 15, 8, 0, 2), (19, 0, 0, 1, 0), (20, 13, 6, 0, 0), (23, 4, 0, 0, 0), (24, 2, 0, 4, 1), (25, 2, 0, 80, 2), (27, 19, 82, 2, 0), (30, 15, 8, 1, 2), (33, 0, 0, 1, 0), (34, 13, 2, 0, 0), (37, 4, 0, 0, 0), (38, 19, 46, 0, 0), (41, 15, 8, 2, 2), (44, 0, 0, 1, 0), (45, 13, 2, 0, 0), (48, 4, 0, 0, 0)]
theorem sy_k102_0 : ∀ r ∈ sy_t102_0, sy_okR miX9_init r := by
  unfold sy_t102_0
  refine List.forall_mem_cons.mpr ⟨rk_al 0 (by decide +kernel) rfl, ?_⟩
  refine List.forall_mem_cons.mpr ⟨rk_ob 1 (by decide +kernel) (mt_1 (List.mem_of_getElem? (i := 20) rfl) rfl), ?_⟩
  refine List.forall_mem_cons.mpr ⟨rk_al 0 (by decide +kernel) rfl, ?_⟩
  refine List.forall_mem_cons.mpr ⟨rk_nw 7 (by decide +kernel) (fun q hq => by cases hq; exact ⟨(mt_1 (List.mem_of_getElem? (i := 23) rfl) rfl), sy_ci6⟩) sy_do6, ?_⟩
  refine List.forall_mem_cons.mpr ⟨rk_dup (by decide +kernel), ?_⟩
  refine List.forall_mem_cons.mpr ⟨rk_bi 6 (by decide +kernel) (by decide +kernel) rfl, ?_⟩
  refine List.forall_mem_cons.mpr ⟨rk_bi 40 (by decide +kernel) (by decide +kernel) rfl, ?_⟩
  refine List.forall_mem_cons.mpr ⟨rk_ca 11 (by decide +kernel) sy_cy82 (mt_1 (List.mem_of_getElem? (i := 25) rfl) rfl), ?_⟩
  refine List.forall_mem_cons.mpr ⟨rk_pf 14 (by decide +kernel) ⟨_, rfl, by decide, (mt_2 (List.mem_of_getElem? (i := 88) rfl) rfl)⟩ (fun q hq => by cases hq; exact ⟨fun _ => rfl, _, tyX9_ok 0 (by decide), Or.inr (Or.inr ⟨rfl, fun x => ⟨rfl, rfl⟩⟩)⟩), ?_⟩
  refine List.forall_mem_cons.mpr ⟨rk_al 0 (by decide +kernel) rfl, ?_⟩
  refine List.forall_mem_cons.mpr ⟨rk_nw 7 (by decide +kernel) (fun q hq => by cases hq; exact ⟨(mt_1 (List.mem_of_getElem? (i := 23) rfl) rfl), sy_ci6⟩) sy_do6, ?_⟩
  refine List.forall_mem_cons.mpr ⟨rk_dup (by decide +kernel), ?_⟩
  refine List.forall_mem_cons.mpr ⟨rk_ic 4 (by decide +kernel) (by decide +kernel) rfl, ?_⟩
  refine List.forall_mem_cons.mpr ⟨rk_bi 80 (by decide +kernel) (by decide +kernel) rfl, ?_⟩
  refine List.forall_mem_cons.mpr ⟨rk_ca 11 (by decide +kernel) sy_cy82 (mt_1 (List.mem_of_getElem? (i := 25) rfl) rfl), ?_⟩
  refine List.forall_mem_cons.mpr ⟨rk_pf 18 (by decide +kernel) ⟨_, rfl, by decide, (mt_2 (List.mem_of_getElem? (i := 89) rfl) rfl)⟩ (fun q hq => by cases hq; exact ⟨fun _ => rfl, _, tyX9_ok 1 (by decide), Or.inr (Or.inr ⟨rfl, fun x => ⟨rfl, rfl⟩⟩)⟩), ?_⟩
  refine List.forall_mem_cons.mpr ⟨rk_al 0 (by decide +kernel) rfl, ?_⟩
  refine List.forall_mem_cons.mpr ⟨rk_nw 21 (by decide +kernel) (fun q hq => by cases hq; exact ⟨(mt_1 (List.mem_of_getElem? (i := 41) rfl) rfl), sy_ci2⟩) sy_do2, ?_⟩
  refine List.forall_mem_cons.mpr ⟨rk_dup (by decide +kernel), ?_⟩
  refine List.forall_mem_cons.mpr ⟨rk_ca 23 (by decide +kernel) sy_cy46 (mt_1 (List.mem_of_getElem? (i := 43) rfl) rfl), ?_⟩
  refine List.forall_mem_cons.mpr ⟨rk_pf 24 (by decide +kernel) ⟨_, rfl, by decide, (mt_2 (List.mem_of_getElem? (i := 90) rfl) rfl)⟩ (fun q hq => by cases hq; exact ⟨fun _ => rfl, _, tyX9_ok 2 (by decide), Or.inr (Or.inr ⟨rfl, fun x => ⟨rfl, rfl⟩⟩)⟩), ?_⟩
  refine List.forall_mem_cons.mpr ⟨rk_al 0 (by decide +kernel) rfl, ?_⟩
  refine List.forall_mem_cons.mpr ⟨rk_nw 21 (by decide +kernel) (fun q hq => by cases hq; exact ⟨(mt_1 (List.mem_of_getElem? (i := 41) rfl) rfl), sy_ci2⟩) sy_do2, ?_⟩
  refine List.forall_mem_cons.mpr ⟨rk_dup (by decide +kernel), ?_⟩
  exact fun _ h => absurd h List.not_mem_nil
def sy_t102_1 : List sy_R := [(49, 19, 46, 0, 0), (52, 15, 8, 3, 2), (55, 0, 0, 1, 0), (56, 13, 5, 0, 0), (59, 4, 0, 0, 0), (60, 0, 0, 1, 0), (61, 14, 8, 3, 0), (64, 19, 73, 1, 0), (67, 15, 8, 4, 2), (70, 0, 0, 1, 0), (71, 13, 1, 0, 0), (74, 4, 0, 0, 0), (75, 19, 20, 0, 0), (78, 15, 8, 5, 2), (81, 0, 0, 1, 0), (82, 2, 0, 3, 1), (83, 11, 0, 0, 0), (86, 15, 8, 6, 2), (89, 2, 0, 0, 1), (90, 5, 1, 0, 0), (91, 1, 1, 0, 0), (92, 2, 0, 3, 1), (93, 9, 115, 0, 0), (96, 0, 0, 1, 0)]
theorem sy_k102_1 : ∀ r ∈ sy_t102_1, sy_okR miX9_init r := by
  unfold sy_t102_1
  refine List.forall_mem_cons.mpr ⟨rk_ca 23 (by decide +kernel) sy_cy46 (mt_1 (List.mem_of_getElem? (i := 43) rfl) rfl), ?_⟩
  refine List.forall_mem_cons.mpr ⟨rk_pf 28 (by decide +kernel) ⟨_, rfl, by decide, (mt_2 (List.mem_of_getElem? (i := 91) rfl) rfl)⟩ (fun q hq => by cases hq; exact ⟨fun _ => rfl, _, tyX9_ok 3 (by decide), Or.inr (Or.inr ⟨rfl, fun x => ⟨rfl, rfl⟩⟩)⟩), ?_⟩
  refine List.forall_mem_cons.mpr ⟨rk_al 0 (by decide +kernel) rfl, ?_⟩
  refine List.forall_mem_cons.mpr ⟨rk_nw 31 (by decide +kernel) (fun q hq => by cases hq; exact ⟨(mt_1 (List.mem_of_getElem? (i := 81) rfl) rfl), sy_ci5⟩) sy_do5, ?_⟩
  refine List.forall_mem_cons.mpr ⟨rk_dup (by decide +kernel), ?_⟩
  refine List.forall_mem_cons.mpr ⟨rk_al 0 (by decide +kernel) rfl, ?_⟩
  refine List.forall_mem_cons.mpr ⟨rk_gf 28 (by decide +kernel) ⟨_, rfl, by decide, (mt_2 (List.mem_of_getElem? (i := 91) rfl) rfl)⟩, ?_⟩
  refine List.forall_mem_cons.mpr ⟨rk_ca 33 (by decide +kernel) sy_cy73 (mt_1 (List.mem_of_getElem? (i := 83) rfl) rfl), ?_⟩
  refine List.forall_mem_cons.mpr ⟨rk_pf 36 (by decide +kernel) ⟨_, rfl, by decide, (mt_2 (List.mem_of_getElem? (i := 92) rfl) rfl)⟩ (fun q hq => by cases hq; exact ⟨fun _ => rfl, _, tyX9_ok 4 (by decide), Or.inr (Or.inr ⟨rfl, fun x => ⟨rfl, rfl⟩⟩)⟩), ?_⟩
  refine List.forall_mem_cons.mpr ⟨rk_al 0 (by decide +kernel) rfl, ?_⟩
  refine List.forall_mem_cons.mpr ⟨rk_nw 40 (by decide +kernel) (fun q hq => by cases hq; exact ⟨(mt_1 (List.mem_of_getElem? (i := 104) rfl) rfl), sy_ci1⟩) sy_do1, ?_⟩
  refine List.forall_mem_cons.mpr ⟨rk_dup (by decide +kernel), ?_⟩
  refine List.forall_mem_cons.mpr ⟨rk_ca 42 (by decide +kernel) sy_cy20 (mt_1 (List.mem_of_getElem? (i := 106) rfl) rfl), ?_⟩
  refine List.forall_mem_cons.mpr ⟨rk_pf 43 (by decide +kernel) ⟨_, rfl, by decide, (mt_2 (List.mem_of_getElem? (i := 93) rfl) rfl)⟩ (fun q hq => by cases hq; exact ⟨fun _ => rfl, _, tyX9_ok 5 (by decide), Or.inr (Or.inr ⟨rfl, fun x => ⟨rfl, rfl⟩⟩)⟩), ?_⟩
  refine List.forall_mem_cons.mpr ⟨rk_al 0 (by decide +kernel) rfl, ?_⟩
  refine List.forall_mem_cons.mpr ⟨rk_ic 3 (by decide +kernel) (by decide +kernel) rfl, ?_⟩
  refine List.forall_mem_cons.mpr ⟨rk_an 40 (by decide +kernel) (mt_1 (List.mem_of_getElem? (i := 104) rfl) rfl), ?_⟩
  refine List.forall_mem_cons.mpr ⟨rk_pf 47 (by decide +kernel) ⟨_, rfl, by decide, (mt_2 (List.mem_of_getElem? (i := 94) rfl) rfl)⟩ (fun q hq => by cases hq; exact ⟨fun _ => rfl, _, tyX9_ok 6 (by decide), Or.inr (Or.inr ⟨rfl, fun x => ⟨rfl, rfl⟩⟩)⟩), ?_⟩
  refine List.forall_mem_cons.mpr ⟨rk_ic 0 (by decide +kernel) (by decide +kernel) rfl, ?_⟩
  refine List.forall_mem_cons.mpr ⟨rk_is 1 (by decide +kernel) rfl, ?_⟩
  refine List.forall_mem_cons.mpr ⟨rk_il 1 (by decide +kernel) rfl, ?_⟩
  refine List.forall_mem_cons.mpr ⟨rk_ic 3 (by decide +kernel) (by decide +kernel) rfl, ?_⟩
  refine List.forall_mem_cons.mpr ⟨rk_ge 22 (by decide +kernel) (by decide), ?_⟩
  refine List.forall_mem_cons.mpr ⟨rk_al 0 (by decide +kernel) rfl, ?_⟩
  exact fun _ h => absurd h List.not_mem_nil
def sy_t102_2 : List sy_R := [(97, 14, 8, 6, 0), (100, 1, 1, 0, 0), (101, 13, 1, 0, 0), (104, 4, 0, 0, 0), (105, 19, 20, 0, 0), (108, 17, 0, 0, 0), (109, 7, 1, 0, 0), (112, 8, 91, 0, 0), (115, 0, 0, 1, 0), (116, 2, 0, 3, 1), (117, 10, 1, 0, 0), (119, 15, 8, 7, 2), (122, 0, 0, 1, 0), (123, 13, 0, 0, 0), (126, 4, 0, 0, 0), (127, 19, 0, 0, 0), (130, 15, 8, 8, 2), (133, 13, 1, 0, 0), (136, 4, 0, 0, 0), (137, 19, 20, 0, 0), (140, 6, 1, 0, 0), (141, 0, 0, 1, 0), (142, 13, 4, 0, 0), (145, 4, 0, 0, 0)]
theorem sy_k102_2 : ∀ r ∈ sy_t102_2, sy_okR miX9_init r := by
  unfold sy_t102_2
  refine List.forall_mem_cons.mpr ⟨rk_gf 47 (by decide +kernel) ⟨_, rfl, by decide, (mt_2 (List.mem_of_getElem? (i := 94) rfl) rfl)⟩, ?_⟩
  refine List.forall_mem_cons.mpr ⟨rk_il 1 (by decide +kernel) rfl, ?_⟩
  refine List.forall_mem_cons.mpr ⟨rk_nw 40 (by decide +kernel) (fun q hq => by cases hq; exact ⟨(mt_1 (List.mem_of_getElem? (i := 104) rfl) rfl), sy_ci1⟩) sy_do1, ?_⟩
  refine List.forall_mem_cons.mpr ⟨rk_dup (by decide +kernel), ?_⟩
  refine List.forall_mem_cons.mpr ⟨rk_ca 42 (by decide +kernel) sy_cy20 (mt_1 (List.mem_of_getElem? (i := 106) rfl) rfl), ?_⟩
  refine List.forall_mem_cons.mpr ⟨rk_aa (by decide +kernel), ?_⟩
  refine List.forall_mem_cons.mpr ⟨rk_ii (by decide +kernel), ?_⟩
  refine List.forall_mem_cons.mpr ⟨rk_go (-21) (by decide +kernel) (by decide), ?_⟩
  refine List.forall_mem_cons.mpr ⟨rk_al 0 (by decide +kernel) rfl, ?_⟩
  refine List.forall_mem_cons.mpr ⟨rk_ic 3 (by decide +kernel) (by decide +kernel) rfl, ?_⟩
  refine List.forall_mem_cons.mpr ⟨rk_n1 (by decide +kernel) sy_ac1, ?_⟩
  refine List.forall_mem_cons.mpr ⟨rk_pf 51 (by decide +kernel) ⟨_, rfl, by decide, (mt_2 (List.mem_of_getElem? (i := 95) rfl) rfl)⟩ (fun q hq => by cases hq; exact ⟨fun _ => rfl, _, tyX9_ok 7 (by decide), Or.inr (Or.inr ⟨rfl, fun x => ⟨rfl, rfl⟩⟩)⟩), ?_⟩
  refine List.forall_mem_cons.mpr ⟨rk_al 0 (by decide +kernel) rfl, ?_⟩
  refine List.forall_mem_cons.mpr ⟨rk_nw 55 (by decide +kernel) (fun q hq => by cases hq; exact ⟨(mt_1 (List.mem_of_getElem? (i := 159) rfl) rfl), sy_ci0⟩) sy_do0, ?_⟩
  refine List.forall_mem_cons.mpr ⟨rk_dup (by decide +kernel), ?_⟩
  refine List.forall_mem_cons.mpr ⟨rk_ca 57 (by decide +kernel) sy_cy0 (mt_1 (List.mem_of_getElem? (i := 161) rfl) rfl), ?_⟩
  refine List.forall_mem_cons.mpr ⟨rk_pf 58 (by decide +kernel) ⟨_, rfl, by decide, (mt_2 (List.mem_of_getElem? (i := 96) rfl) rfl)⟩ (fun q hq => by cases hq; exact ⟨fun _ => rfl, _, tyX9_ok 8 (by decide), Or.inr (Or.inr ⟨rfl, fun x => ⟨rfl, rfl⟩⟩)⟩), ?_⟩
  refine List.forall_mem_cons.mpr ⟨rk_nw 40 (by decide +kernel) (fun q hq => by cases hq; exact ⟨(mt_1 (List.mem_of_getElem? (i := 104) rfl) rfl), sy_ci1⟩) sy_do1, ?_⟩
  refine List.forall_mem_cons.mpr ⟨rk_dup (by decide +kernel), ?_⟩
  refine List.forall_mem_cons.mpr ⟨rk_ca 42 (by decide +kernel) sy_cy20 (mt_1 (List.mem_of_getElem? (i := 106) rfl) rfl), ?_⟩
  refine List.forall_mem_cons.mpr ⟨rk_as 1 (by decide +kernel) rfl, ?_⟩
  refine List.forall_mem_cons.mpr ⟨rk_al 0 (by decide +kernel) rfl, ?_⟩
  refine List.forall_mem_cons.mpr ⟨rk_nw 62 (by decide +kernel) (fun q hq => by cases hq; exact ⟨(mt_1 (List.mem_of_getElem? (i := 226) rfl) rfl), sy_ci4⟩) sy_do4, ?_⟩
  refine List.forall_mem_cons.mpr ⟨rk_dup (by decide +kernel), ?_⟩
  exact fun _ h => absurd h List.not_mem_nil
def sy_t102_3 : List sy_R := [(146, 0, 0, 1, 0), (147, 14, 8, 2, 0), (150, 0, 0, 1, 0), (151, 14, 8, 5, 0), (154, 0, 1, 1, 0), (155, 0, 0, 1, 0), (156, 14, 8, 8, 0), (159, 19, 66, 4, 0), (162, 15, 8, 9, 2), (165, 0, 0, 1, 0), (166, 13, 7, 0, 0), (169, 4, 0, 0, 0), (170, 0, 0, 1, 0), (171, 14, 8, 2, 0), (174, 0, 1, 1, 0), (175, 0, 0, 1, 0), (176, 14, 8, 8, 0), (179, 19, 94, 3, 0), (182, 15, 8, 10, 2), (185, 0, 0, 1, 0), (186, 13, 3, 0, 0), (189, 4, 0, 0, 0), (190, 0, 0, 1, 0), (191, 14, 8, 2, 0)]
theorem sy_k102_3 : ∀ r ∈ sy_t102_3, sy_okR miX9_init r := by
  unfold sy_t102_3
  refine List.forall_mem_cons.mpr ⟨rk_al 0 (by decide +kernel) rfl, ?_⟩
  refine List.forall_mem_cons.mpr ⟨rk_gf 24 (by decide +kernel) ⟨_, rfl, by decide, (mt_2 (List.mem_of_getElem? (i := 90) rfl) rfl)⟩, ?_⟩
  refine List.forall_mem_cons.mpr ⟨rk_al 0 (by decide +kernel) rfl, ?_⟩
  refine List.forall_mem_cons.mpr ⟨rk_gf 43 (by decide +kernel) ⟨_, rfl, by decide, (mt_2 (List.mem_of_getElem? (i := 93) rfl) rfl)⟩, ?_⟩
  refine List.forall_mem_cons.mpr ⟨rk_al 1 (by decide +kernel) rfl, ?_⟩
  refine List.forall_mem_cons.mpr ⟨rk_al 0 (by decide +kernel) rfl, ?_⟩
  refine List.forall_mem_cons.mpr ⟨rk_gf 58 (by decide +kernel) ⟨_, rfl, by decide, (mt_2 (List.mem_of_getElem? (i := 96) rfl) rfl)⟩, ?_⟩
  refine List.forall_mem_cons.mpr ⟨rk_ca 64 (by decide +kernel) sy_cy66 (mt_1 (List.mem_of_getElem? (i := 228) rfl) rfl), ?_⟩
  refine List.forall_mem_cons.mpr ⟨rk_pf 67 (by decide +kernel) ⟨_, rfl, by decide, (mt_2 (List.mem_of_getElem? (i := 97) rfl) rfl)⟩ (fun q hq => by cases hq; exact ⟨fun _ => rfl, _, tyX9_ok 9 (by decide), Or.inr (Or.inr ⟨rfl, fun x => ⟨rfl, rfl⟩⟩)⟩), ?_⟩
  refine List.forall_mem_cons.mpr ⟨rk_al 0 (by decide +kernel) rfl, ?_⟩
  refine List.forall_mem_cons.mpr ⟨rk_nw 71 (by decide +kernel) (fun q hq => by cases hq; exact ⟨(mt_2 (List.mem_of_getElem? (i := 22) rfl) rfl), sy_ci7⟩) sy_do7, ?_⟩
  refine List.forall_mem_cons.mpr ⟨rk_dup (by decide +kernel), ?_⟩
  refine List.forall_mem_cons.mpr ⟨rk_al 0 (by decide +kernel) rfl, ?_⟩
  refine List.forall_mem_cons.mpr ⟨rk_gf 24 (by decide +kernel) ⟨_, rfl, by decide, (mt_2 (List.mem_of_getElem? (i := 90) rfl) rfl)⟩, ?_⟩
  refine List.forall_mem_cons.mpr ⟨rk_al 1 (by decide +kernel) rfl, ?_⟩
  refine List.forall_mem_cons.mpr ⟨rk_al 0 (by decide +kernel) rfl, ?_⟩
  refine List.forall_mem_cons.mpr ⟨rk_gf 58 (by decide +kernel) ⟨_, rfl, by decide, (mt_2 (List.mem_of_getElem? (i := 96) rfl) rfl)⟩, ?_⟩
  refine List.forall_mem_cons.mpr ⟨rk_ca 73 (by decide +kernel) sy_cy94 (mt_2 (List.mem_of_getElem? (i := 24) rfl) rfl), ?_⟩
  refine List.forall_mem_cons.mpr ⟨rk_pf 76 (by decide +kernel) ⟨_, rfl, by decide, (mt_2 (List.mem_of_getElem? (i := 98) rfl) rfl)⟩ (fun q hq => by cases hq; exact ⟨fun _ => rfl, _, tyX9_ok 10 (by decide), Or.inr (Or.inr ⟨rfl, fun x => ⟨rfl, rfl⟩⟩)⟩), ?_⟩
  refine List.forall_mem_cons.mpr ⟨rk_al 0 (by decide +kernel) rfl, ?_⟩
  refine List.forall_mem_cons.mpr ⟨rk_nw 80 (by decide +kernel) (fun q hq => by cases hq; exact ⟨(mt_2 (List.mem_of_getElem? (i := 53) rfl) rfl), sy_ci3⟩) sy_do3, ?_⟩
  refine List.forall_mem_cons.mpr ⟨rk_dup (by decide +kernel), ?_⟩
  refine List.forall_mem_cons.mpr ⟨rk_al 0 (by decide +kernel) rfl, ?_⟩
  refine List.forall_mem_cons.mpr ⟨rk_gf 24 (by decide +kernel) ⟨_, rfl, by decide, (mt_2 (List.mem_of_getElem? (i := 90) rfl) rfl)⟩, ?_⟩
  exact fun _ h => absurd h List.not_mem_nil
def sy_t102_4 : List sy_R := [(194, 0, 0, 1, 0), (195, 14, 8, 5, 0), (198, 19, 58, 2, 0), (201, 15, 8, 11, 2), (204, 0, 0, 1, 0), (205, 2, 0, 6, 2), (207, 10, 0, 0, 0), (209, 15, 8, 12, 2), (212, 0, 0, 1, 0), (213, 3, 1, 0, 0), (214, 15, 8, 16, 1), (217, 20, 0, 0, 0)]
theorem sy_k102_4 : ∀ r ∈ sy_t102_4, sy_okR miX9_init r := by
  unfold sy_t102_4
  refine List.forall_mem_cons.mpr ⟨rk_al 0 (by decide +kernel) rfl, ?_⟩
  refine List.forall_mem_cons.mpr ⟨rk_gf 43 (by decide +kernel) ⟨_, rfl, by decide, (mt_2 (List.mem_of_getElem? (i := 93) rfl) rfl)⟩, ?_⟩
  refine List.forall_mem_cons.mpr ⟨rk_ca 82 (by decide +kernel) sy_cy58 (mt_2 (List.mem_of_getElem? (i := 55) rfl) rfl), ?_⟩
  refine List.forall_mem_cons.mpr ⟨rk_pf 85 (by decide +kernel) ⟨_, rfl, by decide, (mt_2 (List.mem_of_getElem? (i := 99) rfl) rfl)⟩ (fun q hq => by cases hq; exact ⟨fun _ => rfl, _, tyX9_ok 11 (by decide), Or.inr (Or.inr ⟨rfl, fun x => ⟨rfl, rfl⟩⟩)⟩), ?_⟩
  refine List.forall_mem_cons.mpr ⟨rk_al 0 (by decide +kernel) rfl, ?_⟩
  refine List.forall_mem_cons.mpr ⟨rk_bi 6 (by decide +kernel) (by decide +kernel) rfl, ?_⟩
  refine List.forall_mem_cons.mpr ⟨rk_n0 (by decide +kernel) sy_ac0, ?_⟩
  refine List.forall_mem_cons.mpr ⟨rk_pf 89 (by decide +kernel) ⟨_, rfl, by decide, (mt_2 (List.mem_of_getElem? (i := 100) rfl) rfl)⟩ (fun q hq => by cases hq; exact ⟨fun _ => rfl, _, tyX9_ok 12 (by decide), Or.inr (Or.inr ⟨rfl, fun x => ⟨rfl, rfl⟩⟩)⟩), ?_⟩
  refine List.forall_mem_cons.mpr ⟨rk_al 0 (by decide +kernel) rfl, ?_⟩
  refine List.forall_mem_cons.mpr ⟨rk_lc 1 (by decide +kernel) rfl, ?_⟩
  refine List.forall_mem_cons.mpr ⟨rk_pf 93 (by decide +kernel) ⟨_, rfl, by decide, (mt_2 (List.mem_of_getElem? (i := 104) rfl) rfl)⟩ (fun q hq => by cases hq; exact ⟨fun _ => rfl, _, tyX9_ok 16 (by decide), Or.inr (Or.inl ⟨rfl, rfl⟩)⟩), ?_⟩
  refine List.forall_mem_cons.mpr ⟨rk_rt (by decide +kernel) rfl, ?_⟩
  exact fun _ h => absurd h List.not_mem_nil
def sy_t102 : List sy_R := sy_t102_0 ++ sy_t102_1 ++ sy_t102_2 ++ sy_t102_3 ++ sy_t102_4
theorem sy_k102 : ∀ r ∈ sy_t102, sy_okR miX9_init r := sy_apk (sy_apk (sy_apk (sy_apk (sy_k102_0) sy_k102_1) sy_k102_2) sy_k102_3) sy_k102_4
def sy_t160_0 : List sy_R := [(0, 0, 0, 1, 0), (1, 18, 0, 0, 0), (4, 0, 0, 1, 0), (5, 2, 0, 6, 2), (7, 10, 0, 0, 0), (9, 15, 9, 0, 2), (12, 0, 0, 1, 0), (13, 2, 0, 240, 3), (16, 10, 0, 0, 0), (18, 15, 9, 1, 2), (21, 0, 0, 1, 0), (22, 2, 0, 4, 1), (23, 10, 0, 0, 0), (25, 15, 9, 2, 2), (28, 0, 0, 1, 0), (29, 2, 0, 320, 3), (32, 10, 0, 0, 0), (34, 15, 9, 3, 2), (37, 0, 0, 1, 0), (38, 2, 0, 78, 2), (40, 10, 0, 0, 0), (42, 15, 9, 4, 2), (45, 0, 0, 1, 0), (46, 2, 0, 234, 3)]
theorem sy_k160_0 : ∀ r ∈ sy_t160_0, sy_okR miX10_init r := by
  unfold sy_t160_0
  refine List.forall_mem_cons.mpr ⟨rk_al 0 (by decide +kernel) rfl, ?_⟩
  refine List.forall_mem_cons.mpr ⟨rk_ob 1 (by decide +kernel) (mt_5 (List.mem_of_getElem? (i := 96) rfl) rfl), ?_⟩
  refine List.forall_mem_cons.mpr ⟨rk_al 0 (by decide +kernel) rfl, ?_⟩
  refine List.forall_mem_cons.mpr ⟨rk_bi 6 (by decide +kernel) (by decide +kernel) rfl, ?_⟩
  refine List.forall_mem_cons.mpr ⟨rk_n0 (by decide +kernel) sy_ac0, ?_⟩
  refine List.forall_mem_cons.mpr ⟨rk_pf 7 (by decide +kernel) ⟨_, rfl, by decide, (mt_5 (List.mem_of_getElem? (i := 97) rfl) rfl)⟩ (fun q hq => by cases hq; exact ⟨fun _ => rfl, _, tyX10_ok 0 (by decide), Or.inr (Or.inr ⟨rfl, fun x => ⟨rfl, rfl⟩⟩)⟩), ?_⟩
  refine List.forall_mem_cons.mpr ⟨rk_al 0 (by decide +kernel) rfl, ?_⟩
  refine List.forall_mem_cons.mpr ⟨rk_si 240 (by decide +kernel) (by decide +kernel) rfl, ?_⟩
  refine List.forall_mem_cons.mpr ⟨rk_n0 (by decide +kernel) sy_ac0, ?_⟩
  refine List.forall_mem_cons.mpr ⟨rk_pf 13 (by decide +kernel) ⟨_, rfl, by decide, (mt_5 (List.mem_of_getElem? (i := 98) rfl) rfl)⟩ (fun q hq => by cases hq; exact ⟨fun _ => rfl, _, tyX10_ok 1 (by decide), Or.inr (Or.inr ⟨rfl, fun x => ⟨rfl, rfl⟩⟩)⟩), ?_⟩
  refine List.forall_mem_cons.mpr ⟨rk_al 0 (by decide +kernel) rfl, ?_⟩
  refine List.forall_mem_cons.mpr ⟨rk_ic 4 (by decide +kernel) (by decide +kernel) rfl, ?_⟩
  refine List.forall_mem_cons.mpr ⟨rk_n0 (by decide +kernel) sy_ac0, ?_⟩
  refine List.forall_mem_cons.mpr ⟨rk_pf 16 (by decide +kernel) ⟨_, rfl, by decide, (mt_5 (List.mem_of_getElem? (i := 99) rfl) rfl)⟩ (fun q hq => by cases hq; exact ⟨fun _ => rfl, _, tyX10_ok 2 (by decide), Or.inr (Or.inr ⟨rfl, fun x => ⟨rfl, rfl⟩⟩)⟩), ?_⟩
  refine List.forall_mem_cons.mpr ⟨rk_al 0 (by decide +kernel) rfl, ?_⟩
  refine List.forall_mem_cons.mpr ⟨rk_si 320 (by decide +kernel) (by decide +kernel) rfl, ?_⟩
  refine List.forall_mem_cons.mpr ⟨rk_n0 (by decide +kernel) sy_ac0, ?_⟩
  refine List.forall_mem_cons.mpr ⟨rk_pf 19 (by decide +kernel) ⟨_, rfl, by decide, (mt_5 (List.mem_of_getElem? (i := 100) rfl) rfl)⟩ (fun q hq => by cases hq; exact ⟨fun _ => rfl, _, tyX10_ok 3 (by decide), Or.inr (Or.inr ⟨rfl, fun x => ⟨rfl, rfl⟩⟩)⟩), ?_⟩
  refine List.forall_mem_cons.mpr ⟨rk_al 0 (by decide +kernel) rfl, ?_⟩
  refine List.forall_mem_cons.mpr ⟨rk_bi 78 (by decide +kernel) (by decide +kernel) rfl, ?_⟩
  refine List.forall_mem_cons.mpr ⟨rk_n0 (by decide +kernel) sy_ac0, ?_⟩
  refine List.forall_mem_cons.mpr ⟨rk_pf 22 (by decide +kernel) ⟨_, rfl, by decide, (mt_5 (List.mem_of_getElem? (i := 101) rfl) rfl)⟩ (fun q hq => by cases hq; exact ⟨fun _ => rfl, _, tyX10_ok 4 (by decide), Or.inr (Or.inr ⟨rfl, fun x => ⟨rfl, rfl⟩⟩)⟩), ?_⟩
  refine List.forall_mem_cons.mpr ⟨rk_al 0 (by decide +kernel) rfl, ?_⟩
  refine List.forall_mem_cons.mpr ⟨rk_si 234 (by decide +kernel) (by decide +kernel) rfl, ?_⟩
  exact fun _ h => absurd h List.not_mem_nil
def sy_t160_1 : List sy_R := [(49, 10, 0, 0, 0), (51, 15, 9, 5, 2), (54, 0, 0, 1, 0), (55, 2, 0, 3, 1), (56, 10, 1, 0, 0), (58, 15, 9, 6, 2), (61, 0, 0, 1, 0), (62, 3, 1, 0, 0), (63, 15, 9, 9, 1), (66, 0, 0, 1, 0), (67, 2, 0, 6, 2), (69, 10, 0, 0, 0), (71, 15, 9, 11, 2), (74, 0, 0, 1, 0), (75, 2, 0, 78, 2), (77, 10, 0, 0, 0), (79, 15, 9, 12, 2), (82, 0, 0, 1, 0), (83, 2, 0, 28, 2), (85, 10, 0, 0, 0), (87, 15, 9, 14, 2), (90, 0, 0, 1, 0), (91, 2, 0, 28, 2), (93, 10, 0, 0, 0)]
theorem sy_k160_1 : ∀ r ∈ sy_t160_1, sy_okR miX10_init r := by
  unfold sy_t160_1
  refine List.forall_mem_cons.mpr ⟨rk_n0 (by decide +kernel) sy_ac0, ?_⟩
  refine List.forall_mem_cons.mpr ⟨rk_pf 25 (by decide +kernel) ⟨_, rfl, by decide, (mt_5 (List.mem_of_getElem? (i := 102) rfl) rfl)⟩ (fun q hq => by cases hq; exact ⟨fun _ => rfl, _, tyX10_ok 5 (by decide), Or.inr (Or.inr ⟨rfl, fun x => ⟨rfl, rfl⟩⟩)⟩), ?_⟩
  refine List.forall_mem_cons.mpr ⟨rk_al 0 (by decide +kernel) rfl, ?_⟩
  refine List.forall_mem_cons.mpr ⟨rk_ic 3 (by decide +kernel) (by decide +kernel) rfl, ?_⟩
  refine List.forall_mem_cons.mpr ⟨rk_n1 (by decide +kernel) sy_ac1, ?_⟩
  refine List.forall_mem_cons.mpr ⟨rk_pf 28 (by decide +kernel) ⟨_, rfl, by decide, (mt_5 (List.mem_of_getElem? (i := 103) rfl) rfl)⟩ (fun q hq => by cases hq; exact ⟨fun _ => rfl, _, tyX10_ok 6 (by decide), Or.inr (Or.inr ⟨rfl, fun x => ⟨rfl, rfl⟩⟩)⟩), ?_⟩
  refine List.forall_mem_cons.mpr ⟨rk_al 0 (by decide +kernel) rfl, ?_⟩
  refine List.forall_mem_cons.mpr ⟨rk_lc 1 (by decide +kernel) rfl, ?_⟩
  refine List.forall_mem_cons.mpr ⟨rk_pf 32 (by decide +kernel) ⟨_, rfl, by decide, (mt_5 (List.mem_of_getElem? (i := 106) rfl) rfl)⟩ (fun q hq => by cases hq; exact ⟨fun _ => rfl, _, tyX10_ok 9 (by decide), Or.inr (Or.inl ⟨rfl, rfl⟩)⟩), ?_⟩
  refine List.forall_mem_cons.mpr ⟨rk_al 0 (by decide +kernel) rfl, ?_⟩
  refine List.forall_mem_cons.mpr ⟨rk_bi 6 (by decide +kernel) (by decide +kernel) rfl, ?_⟩
  refine List.forall_mem_cons.mpr ⟨rk_n0 (by decide +kernel) sy_ac0, ?_⟩
  refine List.forall_mem_cons.mpr ⟨rk_pf 36 (by decide +kernel) ⟨_, rfl, by decide, (mt_5 (List.mem_of_getElem? (i := 108) rfl) rfl)⟩ (fun q hq => by cases hq; exact ⟨fun _ => rfl, _, tyX10_ok 11 (by decide), Or.inr (Or.inr ⟨rfl, fun x => ⟨rfl, rfl⟩⟩)⟩), ?_⟩
  refine List.forall_mem_cons.mpr ⟨rk_al 0 (by decide +kernel) rfl, ?_⟩
  refine List.forall_mem_cons.mpr ⟨rk_bi 78 (by decide +kernel) (by decide +kernel) rfl, ?_⟩
  refine List.forall_mem_cons.mpr ⟨rk_n0 (by decide +kernel) sy_ac0, ?_⟩
  refine List.forall_mem_cons.mpr ⟨rk_pf 39 (by decide +kernel) ⟨_, rfl, by decide, (mt_5 (List.mem_of_getElem? (i := 109) rfl) rfl)⟩ (fun q hq => by cases hq; exact ⟨fun _ => rfl, _, tyX10_ok 12 (by decide), Or.inr (Or.inr ⟨rfl, fun x => ⟨rfl, rfl⟩⟩)⟩), ?_⟩
  refine List.forall_mem_cons.mpr ⟨rk_al 0 (by decide +kernel) rfl, ?_⟩
  refine List.forall_mem_cons.mpr ⟨rk_bi 28 (by decide +kernel) (by decide +kernel) rfl, ?_⟩
  refine List.forall_mem_cons.mpr ⟨rk_n0 (by decide +kernel) sy_ac0, ?_⟩
  refine List.forall_mem_cons.mpr ⟨rk_pf 42 (by decide +kernel) ⟨_, rfl, by decide, (mt_5 (List.mem_of_getElem? (i := 111) rfl) rfl)⟩ (fun q hq => by cases hq; exact ⟨fun _ => rfl, _, tyX10_ok 14 (by decide), Or.inr (Or.inr ⟨rfl, fun x => ⟨rfl, rfl⟩⟩)⟩), ?_⟩
  refine List.forall_mem_cons.mpr ⟨rk_al 0 (by decide +kernel) rfl, ?_⟩
  refine List.forall_mem_cons.mpr ⟨rk_bi 28 (by decide +kernel) (by decide +kernel) rfl, ?_⟩
  refine List.forall_mem_cons.mpr ⟨rk_n0 (by decide +kernel) sy_ac0, ?_⟩
  exact fun _ h => absurd h List.not_mem_nil
def sy_t160_2 : List sy_R := [(95, 15, 9, 15, 2), (98, 0, 0, 1, 0), (99, 2, 0, 28, 2), (101, 10, 1, 0, 0), (103, 15, 9, 16, 2), (106, 0, 0, 1, 0), (107, 2, 0, 49, 2), (109, 10, 0, 0, 0), (111, 15, 9, 17, 2), (114, 0, 0, 1, 0), (115, 2, 0, 8, 2), (117, 10, 0, 0, 0), (119, 15, 9, 19, 2), (122, 0, 0, 1, 0), (123, 2, 0, 8, 2), (125, 10, 0, 0, 0), (127, 15, 9, 23, 2), (130, 0, 0, 1, 0), (131, 2, 0, 78, 2), (133, 10, 0, 0, 0), (135, 15, 9, 25, 2), (138, 0, 0, 1, 0), (139, 2, 0, 9, 2), (141, 10, 0, 0, 0)]
theorem sy_k160_2 : ∀ r ∈ sy_t160_2, sy_okR miX10_init r := by
  unfold sy_t160_2
  refine List.forall_mem_cons.mpr ⟨rk_pf 45 (by decide +kernel) ⟨_, rfl, by decide, (mt_5 (List.mem_of_getElem? (i := 112) rfl) rfl)⟩ (fun q hq => by cases hq; exact ⟨fun _ => rfl, _, tyX10_ok 15 (by decide), Or.inr (Or.inr ⟨rfl, fun x => ⟨rfl, rfl⟩⟩)⟩), ?_⟩
  refine List.forall_mem_cons.mpr ⟨rk_al 0 (by decide +kernel) rfl, ?_⟩
  refine List.forall_mem_cons.mpr ⟨rk_bi 28 (by decide +kernel) (by decide +kernel) rfl, ?_⟩
  refine List.forall_mem_cons.mpr ⟨rk_n1 (by decide +kernel) sy_ac1, ?_⟩
  refine List.forall_mem_cons.mpr ⟨rk_pf 48 (by decide +kernel) ⟨_, rfl, by decide, (mt_5 (List.mem_of_getElem? (i := 113) rfl) rfl)⟩ (fun q hq => by cases hq; exact ⟨fun _ => rfl, _, tyX10_ok 16 (by decide), Or.inr (Or.inr ⟨rfl, fun x => ⟨rfl, rfl⟩⟩)⟩), ?_⟩
  refine List.forall_mem_cons.mpr ⟨rk_al 0 (by decide +kernel) rfl, ?_⟩
  refine List.forall_mem_cons.mpr ⟨rk_bi 49 (by decide +kernel) (by decide +kernel) rfl, ?_⟩
  refine List.forall_mem_cons.mpr ⟨rk_n0 (by decide +kernel) sy_ac0, ?_⟩
  refine List.forall_mem_cons.mpr ⟨rk_pf 51 (by decide +kernel) ⟨_, rfl, by decide, (mt_5 (List.mem_of_getElem? (i := 114) rfl) rfl)⟩ (fun q hq => by cases hq; exact ⟨fun _ => rfl, _, tyX10_ok 17 (by decide), Or.inr (Or.inr ⟨rfl, fun x => ⟨rfl, rfl⟩⟩)⟩), ?_⟩
  refine List.forall_mem_cons.mpr ⟨rk_al 0 (by decide +kernel) rfl, ?_⟩
  refine List.forall_mem_cons.mpr ⟨rk_bi 8 (by decide +kernel) (by decide +kernel) rfl, ?_⟩
  refine List.forall_mem_cons.mpr ⟨rk_n0 (by decide +kernel) sy_ac0, ?_⟩
  refine List.forall_mem_cons.mpr ⟨rk_pf 54 (by decide +kernel) ⟨_, rfl, by decide, (mt_5 (List.mem_of_getElem? (i := 116) rfl) rfl)⟩ (fun q hq => by cases hq; exact ⟨fun _ => rfl, _, tyX10_ok 19 (by decide), Or.inr (Or.inr ⟨rfl, fun x => ⟨rfl, rfl⟩⟩)⟩), ?_⟩
  refine List.forall_mem_cons.mpr ⟨rk_al 0 (by decide +kernel) rfl, ?_⟩
  refine List.forall_mem_cons.mpr ⟨rk_bi 8 (by decide +kernel) (by decide +kernel) rfl, ?_⟩
  refine List.forall_mem_cons.mpr ⟨rk_n0 (by decide +kernel) sy_ac0, ?_⟩
  refine List.forall_mem_cons.mpr ⟨rk_pf 57 (by decide +kernel) ⟨_, rfl, by decide, (mt_5 (List.mem_of_getElem? (i := 120) rfl) rfl)⟩ (fun q hq => by cases hq; exact ⟨fun _ => rfl, _, tyX10_ok 23 (by decide), Or.inr (Or.inr ⟨rfl, fun x => ⟨rfl, rfl⟩⟩)⟩), ?_⟩
  refine List.forall_mem_cons.mpr ⟨rk_al 0 (by decide +kernel) rfl, ?_⟩
  refine List.forall_mem_cons.mpr ⟨rk_bi 78 (by decide +kernel) (by decide +kernel) rfl, ?_⟩
  refine List.forall_mem_cons.mpr ⟨rk_n0 (by decide +kernel) sy_ac0, ?_⟩
  refine List.forall_mem_cons.mpr ⟨rk_pf 60 (by decide +kernel) ⟨_, rfl, by decide, (mt_5 (List.mem_of_getElem? (i := 122) rfl) rfl)⟩ (fun q hq => by cases hq; exact ⟨fun _ => rfl, _, tyX10_ok 25 (by decide), Or.inr (Or.inr ⟨rfl, fun x => ⟨rfl, rfl⟩⟩)⟩), ?_⟩
  refine List.forall_mem_cons.mpr ⟨rk_al 0 (by decide +kernel) rfl, ?_⟩
  refine List.forall_mem_cons.mpr ⟨rk_bi 9 (by decide +kernel) (by decide +kernel) rfl, ?_⟩
  refine List.forall_mem_cons.mpr ⟨rk_n0 (by decide +kernel) sy_ac0, ?_⟩
  exact fun _ h => absurd h List.not_mem_nil
def sy_t160_3 : List sy_R := [(143, 15, 9, 26, 2), (146, 0, 0, 1, 0), (147, 2, 0, 128, 3), (150, 10, 2, 0, 0), (152, 15, 9, 27, 2), (155, 0, 0, 1, 0), (156, 2, 0, 128, 3), (159, 10, 2, 0, 0), (161, 15, 9, 28, 2), (164, 2, 0, 0, 1), (165, 5, 1, 0, 0), (166, 1, 1, 0, 0), (167, 2, 0, 6, 2), (169, 9, 185, 0, 0), (172, 0, 0, 1, 0), (173, 14, 9, 0, 0), (176, 1, 1, 0, 0), (177, 2, 1, 0, 1), (178, 16, 0, 0, 0), (179, 7, 1, 0, 0), (182, 8, 166, 0, 0), (185, 2, 0, 0, 1), (186, 5, 1, 0, 0), (187, 1, 1, 0, 0)]
theorem sy_k160_3 : ∀ r ∈ sy_t160_3, sy_okR miX10_init r := by
  unfold sy_t160_3
  refine List.forall_mem_cons.mpr ⟨rk_pf 63 (by decide +kernel) ⟨_, rfl, by decide, (mt_5 (List.mem_of_getElem? (i := 123) rfl) rfl)⟩ (fun q hq => by cases hq; exact ⟨fun _ => rfl, _, tyX10_ok 26 (by decide), Or.inr (Or.inr ⟨rfl, fun x => ⟨rfl, rfl⟩⟩)⟩), ?_⟩
  refine List.forall_mem_cons.mpr ⟨rk_al 0 (by decide +kernel) rfl, ?_⟩
  refine List.forall_mem_cons.mpr ⟨rk_si 128 (by decide +kernel) (by decide +kernel) rfl, ?_⟩
  refine List.forall_mem_cons.mpr ⟨rk_n2 (by decide +kernel) sy_ac2, ?_⟩
  refine List.forall_mem_cons.mpr ⟨rk_pf 66 (by decide +kernel) ⟨_, rfl, by decide, (mt_5 (List.mem_of_getElem? (i := 124) rfl) rfl)⟩ (fun q hq => by cases hq; exact ⟨fun _ => rfl, _, tyX10_ok 27 (by decide), Or.inr (Or.inr ⟨rfl, fun x => ⟨rfl, rfl⟩⟩)⟩), ?_⟩
  refine List.forall_mem_cons.mpr ⟨rk_al 0 (by decide +kernel) rfl, ?_⟩
  refine List.forall_mem_cons.mpr ⟨rk_si 128 (by decide +kernel) (by decide +kernel) rfl, ?_⟩
  refine List.forall_mem_cons.mpr ⟨rk_n2 (by decide +kernel) sy_ac2, ?_⟩
  refine List.forall_mem_cons.mpr ⟨rk_pf 70 (by decide +kernel) ⟨_, rfl, by decide, (mt_5 (List.mem_of_getElem? (i := 125) rfl) rfl)⟩ (fun q hq => by cases hq; exact ⟨fun _ => rfl, _, tyX10_ok 28 (by decide), Or.inr (Or.inr ⟨rfl, fun x => ⟨rfl, rfl⟩⟩)⟩), ?_⟩
  refine List.forall_mem_cons.mpr ⟨rk_ic 0 (by decide +kernel) (by decide +kernel) rfl, ?_⟩
  refine List.forall_mem_cons.mpr ⟨rk_is 1 (by decide +kernel) rfl, ?_⟩
  refine List.forall_mem_cons.mpr ⟨rk_il 1 (by decide +kernel) rfl, ?_⟩
  refine List.forall_mem_cons.mpr ⟨rk_bi 6 (by decide +kernel) (by decide +kernel) rfl, ?_⟩
  refine List.forall_mem_cons.mpr ⟨rk_ge 16 (by decide +kernel) (by decide), ?_⟩
  refine List.forall_mem_cons.mpr ⟨rk_al 0 (by decide +kernel) rfl, ?_⟩
  refine List.forall_mem_cons.mpr ⟨rk_gf 7 (by decide +kernel) ⟨_, rfl, by decide, (mt_5 (List.mem_of_getElem? (i := 97) rfl) rfl)⟩, ?_⟩
  refine List.forall_mem_cons.mpr ⟨rk_il 1 (by decide +kernel) rfl, ?_⟩
  refine List.forall_mem_cons.mpr ⟨rk_ic (-1) (by decide +kernel) (by decide +kernel) rfl, ?_⟩
  refine List.forall_mem_cons.mpr ⟨rk_ia (by decide +kernel), ?_⟩
  refine List.forall_mem_cons.mpr ⟨rk_ii (by decide +kernel), ?_⟩
  refine List.forall_mem_cons.mpr ⟨rk_go (-16) (by decide +kernel) (by decide), ?_⟩
  refine List.forall_mem_cons.mpr ⟨rk_ic 0 (by decide +kernel) (by decide +kernel) rfl, ?_⟩
  refine List.forall_mem_cons.mpr ⟨rk_is 1 (by decide +kernel) rfl, ?_⟩
  refine List.forall_mem_cons.mpr ⟨rk_il 1 (by decide +kernel) rfl, ?_⟩
  exact fun _ h => absurd h List.not_mem_nil
def sy_t160_4 : List sy_R := [(188, 2, 0, 4, 1), (189, 9, 205, 0, 0), (192, 0, 0, 1, 0), (193, 14, 9, 2, 0), (196, 1, 1, 0, 0), (197, 2, 1, 0, 1), (198, 16, 0, 0, 0), (199, 7, 1, 0, 0), (202, 8, 187, 0, 0), (205, 20, 0, 0, 0)]
theorem sy_k160_4 : ∀ r ∈ sy_t160_4, sy_okR miX10_init r := by
  unfold sy_t160_4
  refine List.forall_mem_cons.mpr ⟨rk_ic 4 (by decide +kernel) (by decide +kernel) rfl, ?_⟩
  refine List.forall_mem_cons.mpr ⟨rk_ge 16 (by decide +kernel) (by decide), ?_⟩
  refine List.forall_mem_cons.mpr ⟨rk_al 0 (by decide +kernel) rfl, ?_⟩
  refine List.forall_mem_cons.mpr ⟨rk_gf 16 (by decide +kernel) ⟨_, rfl, by decide, (mt_5 (List.mem_of_getElem? (i := 99) rfl) rfl)⟩, ?_⟩
  refine List.forall_mem_cons.mpr ⟨rk_il 1 (by decide +kernel) rfl, ?_⟩
  refine List.forall_mem_cons.mpr ⟨rk_ic (-1) (by decide +kernel) (by decide +kernel) rfl, ?_⟩
  refine List.forall_mem_cons.mpr ⟨rk_ia (by decide +kernel), ?_⟩
  refine List.forall_mem_cons.mpr ⟨rk_ii (by decide +kernel), ?_⟩
  refine List.forall_mem_cons.mpr ⟨rk_go (-15) (by decide +kernel) (by decide), ?_⟩
  refine List.forall_mem_cons.mpr ⟨rk_rt (by decide +kernel) rfl, ?_⟩
  exact fun _ h => absurd h List.not_mem_nil
def sy_t160 : List sy_R := sy_t160_0 ++ sy_t160_1 ++ sy_t160_2 ++ sy_t160_3 ++ sy_t160_4
theorem sy_k160 : ∀ r ∈ sy_t160, sy_okR miX10_init r := sy_apk (sy_apk (sy_apk (sy_apk (sy_k160_0) sy_k160_1) sy_k160_2) sy_k160_3) sy_k160_4
def sy_T : Nat → List sy_R
  | 0 => sy_t0
  | 20 => sy_t20
  | 46 => sy_t46
  | 58 => sy_t58
  | 66 => sy_t66
  | 73 => sy_t73
  | 82 => sy_t82
  | 94 => sy_t94
  | 102 => sy_t102
  | 160 => sy_t160
  | _ => []
theorem sy_T_ok (id : Nat) : ∀ r ∈ sy_T id, sy_okR (ab_mi id) r := by
  unfold sy_T
  split
  · exact sy_k0
  · exact sy_k20
  · exact sy_k46
  · exact sy_k58
  · exact sy_k66
  · exact sy_k73
  · exact sy_k82
  · exact sy_k94
  · exact sy_k102
  · exact sy_k160
  · exact fun _ h => absurd h List.not_mem_nil
