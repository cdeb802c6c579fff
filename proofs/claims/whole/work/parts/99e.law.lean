/-! ===== the law's steps ===== -/
section LBT
variable {mi : ab_I} {d pc : Nat} {nx tg : ab_P} {ls : ab_L} {st : List ab_V} {M : ab_M}
def lb_in : Instr → Bool
  | .iconst _ => true
  | .bipush _ => true
  | .iload_n _ => true
  | .aload_n _ => true
  | .istore_n _ => true
  | .iinc _ _ => true
  | .iadd => true
  | .isub => true
  | .iand => true
  | .lcmp => true
  | .iaload => true
  | .arraylength => true
  | .invokevirtual _ => true
  | .ifCond _ _ => true
  | .if_icmp _ _ => true
  | .goto _ => true
  | .tableswitch _ _ _ _ => true
  | .ireturn => true
  | _ => false
theorem lb_mx : ab_mT.all (fun m => Nat.ble m.2.2.1 1000) = true := by decide +kernel
theorem lb_mxa (id : Nat) : (ab_mi id).2.2.1 ≤ 1000 := by
  show (ab_mT.getD id _).2.2.1 ≤ 1000
  rw [List.getD_eq_getElem?_getD]
  cases h : ab_mT[id]? with
  | none => exact Nat.zero_le _
  | some m => exact Nat.le_of_ble_eq_true (List.all_eq_true.mp lb_mx m (List.mem_of_getElem? h))
theorem lb_lk_ok {r : List (Nat × ab_P)} (hr : ∀ q ∈ r, lb_N mi q.2 q.1) (t : Nat) : lb_N mi (ab_lk r t) t := by
  induction r with
  | nil => exact fun _ _ _ h => h.elim
  | cons q r ih =>
    obtain ⟨p, f⟩ := q
    intro ls st M h
    have h : (match Nat.beq p t with
      | true => f
      | false => ab_lk r t) ls st M := h
    cases hb : Nat.beq p t with
    | true =>
      rw [hb] at h
      have hp : p = t := Nat.eq_of_beq_eq_true hb
      subst hp
      exact hr _ List.mem_cons_self _ _ _ h
    | false =>
      rw [hb] at h
      exact ih (fun q hq => hr q (List.mem_cons_of_mem _ hq)) _ _ _ h
theorem lb_jp_ok {cut : Nat → ab_P} {r : List (Nat × ab_P)} (hr : ∀ q ∈ r, lb_N mi q.2 q.1) (hc : ∀ t, lb_N mi (cut t) t) (off : Int) (h : ab_okJ pc off = true) : ∃ t : Nat, (pc : Int) + off = t ∧ lb_N mi (ab_jp cut r pc off) t := by
  cases off with
  | ofNat k => exact ⟨pc + k, by simp, lb_lk_ok hr _⟩
  | negSucc k =>
    have hk : k + 1 ≤ pc := Nat.le_of_ble_eq_true h
    exact ⟨pc - (k + 1), by omega, hc _⟩
def lb_cut (mi : ab_I) (cs : ab_C) (pc : Nat) : ab_P := fun ls st M => match ab_has cs pc, st with
  | some n, [] => lb_At mi pc (ab_mk n ls) [] M
  | _, _ => False
theorem lb_cut_ok {cs : ab_C} (t : Nat) : lb_N mi (lb_cut mi cs t) t := by
  intro ls st M h
  unfold lb_cut at h
  split at h
  · rename_i bs hcs
    intro p l e s m args below meth c G H locs lr hC hW hL hO
    refine h p l e s m args below meth c G H locs lr hC hW ⟨hL.1, hL.2.1, fun k v hv => ?_⟩ ⟨fun k v hv => ?_, hO.2⟩
    · obtain ⟨w, h1, h2⟩ := ab_mk_gl _ _ _ _ hv
      rw [h2, ab_rv_nr]
      exact hL.2.2 k w h1
    · obtain ⟨w, h1, h2⟩ := ab_mk_gl _ _ _ _ hv
      rw [h2]
      exact ab_okV_nr (hO.1 k w h1)
  · exact h.elim
theorem lb_step_ok {L : ab_LK} (hmi : mi = (x, code, 4, ret)) (hd40 : d ≤ 1000) (hL : ab_okL mi.1.cls L) {cut : Nat → ab_P} {e : ab_E} {r : List (Nat × ab_P)} (he : ab_okE mi L e = true) (hin : lb_in e.2.1 = true) (hr : ∀ q ∈ r, lb_N mi q.2 q.1) (hc : ∀ t, lb_N mi (cut t) t) : lb_N mi (ab_step mi d lb_K cut e r) e.1 := by
  obtain ⟨pc, ins, len, a, b, c⟩ := e
  simp only [ab_okE, Bool.and_eq_true, decide_eq_true_eq] at he
  obtain ⟨hd, hi⟩ := he
  intro ls st M h
  replace h : ab_stp mi d lb_K (ab_lk r (pc + len)) (ab_jp cut r pc) a b c ins ls st M := h
  have hn : lb_N mi (ab_lk r (pc + len)) (pc + len) := lb_lk_ok hr _
  have hj := fun off => lb_jp_ok (pc := pc) hr hc off
  generalize ab_lk r (pc + len) = nx at h hn
  generalize ab_jp cut r pc = jp at h hj
  obtain ⟨lF, lV, lS, lC, lJ, lG, lA, lM⟩ := hL
  show lb_At mi pc ls st M
  have one : ∀ {n : Nat}, Nat.beq len n = true → len = n := fun q => Nat.eq_of_beq_eq_true q
  cases ins <;> try exact absurd (show false = true from hin) (by decide)
  case iconst n =>
    simp only [ab_okI, Bool.and_eq_true, decide_eq_true_eq] at hi
    have e := one hi.1.1
    subst e
    exact lbo_iconst hd hi.1.2 (ab_okR_use hi.2) hn h
  case bipush n =>
    simp only [ab_okI, Bool.and_eq_true, decide_eq_true_eq] at hi
    have e := one hi.1.1
    subst e
    exact lbo_bipush hd hi.1.2 (ab_okR_use hi.2) hn h
  case iload_n k =>
    have e := one hi
    subst e
    exact lbo_iload (Or.inr ⟨k, rfl, hd, rfl⟩) hn h
  case aload_n k =>
    have e := one hi
    subst e
    exact lbo_aload (Or.inr ⟨k, rfl, hd, rfl⟩) hn h
  case istore_n k =>
    simp only [ab_okI, Bool.and_eq_true] at hi
    have e := one hi.1
    subst e
    exact lbo_istore (Or.inr ⟨k, rfl, hd, rfl⟩) (Nat.le_of_ble_eq_true hi.2) hn h
  case iinc k n =>
    simp only [ab_okI, Bool.and_eq_true, decide_eq_true_eq] at hi
    have e := one hi.1.1
    subst e
    simp only [ab_stp] at h
    split at h
    · rename_i v hg
      split at h
      · rename_i x hx
        exact lbo_iinc hd hi.1.2 (Nat.le_of_ble_eq_true hi.2) hn hg hx h
      · exact h.elim
    · exact h.elim
  case iadd =>
    have e := one hi
    subst e
    exact lbo_bin (fun p l e s m args below meth c H locs lr Q rest x y hx hb k => lv_iadd hx hb hd k) hn h
  case isub =>
    have e := one hi
    subst e
    exact lbo_bin (fun p l e s m args below meth c H locs lr Q rest x y hx hb k => lv_isub hx hb hd k) hn h
  case iand =>
    have e := one hi
    subst e
    exact lbo_bin (fun p l e s m args below meth c H locs lr Q rest x y hx hb k => lv_iand hx hb hd k) hn h
  case lcmp =>
    have e := one hi
    subst e
    exact lbo_lcmp hd hn h
  case iaload =>
    have e := one hi
    subst e
    exact lbo_iald hd hn h
  case arraylength =>
    have e := one hi
    subst e
    exact lbo_alen hd hn h
  case invokevirtual i =>
    simp only [ab_okI, Bool.and_eq_true] at hi
    have e := one hi.1
    subst e
    cases b with
    | zero => exact absurd hi.2 (fun q => Bool.noConfusion q)
    | succ b => exact lbo_invV hd40 hd (lV _ (List.contains_iff_mem.mp hi.2)) (lb_mxa _) hn h
  case ifCond cd off =>
    simp only [ab_okI, Bool.and_eq_true] at hi
    have e := one hi.1
    subst e
    obtain ⟨t, ht, hN⟩ := hj off hi.2
    exact lbo_if0 hd ht hN hn h
  case if_icmp cd off =>
    simp only [ab_okI, Bool.and_eq_true] at hi
    have e := one hi.1
    subst e
    obtain ⟨t, ht, hN⟩ := hj off hi.2
    exact lbo_if2 hd ht hN hn h
  case goto off =>
    simp only [ab_okI, Bool.and_eq_true] at hi
    have e := one hi.1
    subst e
    obtain ⟨t, ht, hN⟩ := hj off hi.2
    exact lbo_goto hd ht hN h
  case tableswitch df lo hi2 os =>
    simp only [ab_okI, Bool.and_eq_true, decide_eq_true_eq] at hi
    obtain ⟨⟨⟨i1, i2⟩, i3⟩, i4⟩ := hi
    simp only [ab_stp] at h
    split at h
    · rename_i v rest
      split at h
      · rename_i x hx
        exact lbo_tsw hd i1 (ab_okR_use i2).1 (ab_okR_use i3).2 (fun off ho => hj off (List.all_eq_true.mp i4 off ho)) hx h
      · exact h.elim
    · exact h.elim
  case ireturn =>
    have e := one (show Nat.beq len 1 = true by simp only [ab_okI, Bool.and_eq_true] at hi; exact hi.1)
    subst e
    exact lbo_ret hmi hd h
def lb_sm (mi : ab_I) (cs : ab_C) (d : Nat) : List ab_E → List (Nat × ab_P)
  | [] => []
  | e :: es => (e.1, match ab_has cs e.1 with
    | some _ => lb_cut mi cs e.1
    | none => ab_step mi d lb_K (lb_cut mi cs) e (lb_sm mi cs d es)) :: lb_sm mi cs d es
def lb_vc (mi : ab_I) (cs : ab_C) (d : Nat) : List ab_E → Nat → ab_P
  | [], _ => fun _ _ _ => False
  | e :: es, pc => (match Nat.beq e.1 pc with
    | true => ab_step mi d lb_K (lb_cut mi cs) e (lb_sm mi cs d es)
    | false => lb_vc mi cs d es pc)
def lb_okE (mi : ab_I) (L : ab_LK) (e : ab_E) : Bool := ab_okE mi L e && lb_in e.2.1
theorem lb_sm_ok {L : ab_LK} (hmi : mi = (x, code, 4, ret)) (hd40 : d ≤ 1000) (hL : ab_okL mi.1.cls L) (cs : ab_C) : ∀ es : List ab_E, es.all (lb_okE mi L) = true → ∀ q ∈ lb_sm mi cs d es, lb_N mi q.2 q.1
  | [], _, q, hq => by cases hq
  | e :: es, he, q, hq => by
    rw [List.all_cons, Bool.and_eq_true] at he
    have ih := lb_sm_ok hmi hd40 hL cs es he.2
    rw [lb_sm, List.mem_cons] at hq
    rcases hq with e1 | hq
    · subst e1
      intro ls st M h
      replace h : (match ab_has cs e.1 with
        | some _ => lb_cut mi cs e.1
        | none => ab_step mi d lb_K (lb_cut mi cs) e (lb_sm mi cs d es)) ls st M := h
      cases hb : ab_has cs e.1 with
      | some n =>
        rw [hb] at h
        exact lb_cut_ok _ _ _ _ h
      | none =>
        rw [hb] at h
        exact lb_step_ok hmi hd40 hL (Bool.and_eq_true_iff.mp he.1).1 (Bool.and_eq_true_iff.mp he.1).2 ih (fun t => lb_cut_ok t) _ _ _ h
    · exact ih q hq
theorem lb_vc_ok {L : ab_LK} (hmi : mi = (x, code, 4, ret)) (hd40 : d ≤ 1000) (hL : ab_okL mi.1.cls L) (cs : ab_C) : ∀ es : List ab_E, es.all (lb_okE mi L) = true → ∀ pc, lb_N mi (lb_vc mi cs d es pc) pc
  | [], _, pc => fun _ _ _ h => h.elim
  | e :: es, he, pc => by
    rw [List.all_cons, Bool.and_eq_true] at he
    intro ls st M h
    replace h : (match Nat.beq e.1 pc with
      | true => ab_step mi d lb_K (lb_cut mi cs) e (lb_sm mi cs d es)
      | false => lb_vc mi cs d es pc) ls st M := h
    cases hb : Nat.beq e.1 pc with
    | true =>
      rw [hb] at h
      have hp : e.1 = pc := Nat.eq_of_beq_eq_true hb
      subst hp
      exact lb_step_ok hmi hd40 hL (Bool.and_eq_true_iff.mp he.1).1 (Bool.and_eq_true_iff.mp he.1).2 (lb_sm_ok hmi hd40 hL cs es he.2) (fun t => lb_cut_ok t) _ _ _ h
    | false =>
      rw [hb] at h
      exact lb_vc_ok hmi hd40 hL cs es he.2 pc _ _ _ h
end LBT
