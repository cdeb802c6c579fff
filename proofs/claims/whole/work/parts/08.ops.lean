/-! ===== calls, returns ===== -/
section ABC
variable {mi : ab_I} {d pc : Nat} {K : ab_K} {nx tg : ab_P} {ls : ab_L} {st : List ab_V} {M : ab_M}
theorem lw_good : ∀ w ∈ ab_tb, goodWord w = true := fun w h => (List.mem_filter.mp h).2
theorem ab_wd_good {mi' : ab_I} (h : Cond.code mi'.1 mi'.2.1 mi'.2.2.1 mi'.2.2.2 ∈ ab_tb) : GoodIn ab_tb (ab_wd mi') := by
  intro w hw
  rcases List.mem_cons.mp hw with e | hw
  · subst e
    exact ⟨h, good_of_word (lw_good _ h)⟩
  · exact ⟨hw, good_of_word (lw_good _ hw)⟩
theorem ab_rv_nr {G : ab_G} (v : ab_V) : ab_rv G (ab_nr v) = ab_rv G v := by
  cases v with
  | inl n => cases n <;> rfl
  | inr v => rfl
theorem ab_okV_nr {v : ab_V} (h : ab_okV v) : ab_okV (ab_nr v) := by
  cases v with
  | inl n => cases n <;> exact trivial
  | inr v => exact h
/-- a method: its words among the tables', its room, its name -/
def ab_okY (mi' : ab_I) (n : Nat) : Prop := Cond.code mi'.1 mi'.2.1 mi'.2.2.1 mi'.2.2.2 ∈ ab_tb ∧ Cond.initialized mi'.1.cls ∈ ab_tb ∧ (mi'.1.cls ≠ "java/lang/invoke/MethodHandle" ∧ mi'.1.cls ≠ "java/lang/invoke/VarHandle" ∧ (parseMethodDescriptor mi'.1.desc).map (fun d => d.parameters.length) = some n) ∧ mi'.2.2.1 ≤ 22
def ab_okS (own : String) (idx id n : Nat) : Prop := ab_okY (ab_mi id) n ∧ Cond.methodLink own idx (ab_mi id).1 ∈ ab_tb ∧ Cond.static (ab_mi id).1 ∈ ab_tb
def ab_okN (own : String) (idx id n c : Nat) : Prop := ab_okY (ab_mi id) n ∧ Cond.methodLink own idx (ab_mi id).1 ∈ ab_tb ∧ Cond.instanceMethod (ab_mi id).1 ∈ ab_tb ∧ Cond.selects (ab_mi id).1.cls (ab_mi id).1 (ab_mi id).1 ∈ ab_tb ∧ (vwCl[c]?).map (fun q => q.1) = some (ab_mi id).1.cls
theorem ab_tk_spec : ∀ (n : Nat) (acc st as rest : List ab_V), ab_tk n acc st = some (as, rest) → ∃ xs : List ab_V, xs.length = n ∧ st = xs ++ rest ∧ as = xs.reverse ++ acc
  | 0, acc, st, as, rest, h => by
    simp only [ab_tk, Option.some.injEq, Prod.mk.injEq] at h
    exact ⟨[], rfl, h.2, by rw [h.1]; rfl⟩
  | n + 1, acc, [], as, rest, h => by simp [ab_tk] at h
  | n + 1, acc, v :: st, as, rest, h => by
    obtain ⟨xs, h1, h2, h3⟩ := ab_tk_spec n (v :: acc) st as rest h
    exact ⟨v :: xs, by simp [h1], by simp [h2], by simp [h3]⟩
theorem ab_sz_cat {G : ab_G} : ∀ st : List ab_V, ((st.map (ab_rv G)).map fun v => v.category).sum = ab_sz st
  | [] => rfl
  | .inl n :: st => by
    rw [List.map_cons, List.map_cons, List.sum_cons, ab_sz_cat st]
    rfl
  | .inr (.inl x) :: st => by
    rw [List.map_cons, List.map_cons, List.sum_cons, ab_sz_cat st]
    rfl
  | .inr (.inr (.inl x)) :: st => by
    rw [List.map_cons, List.map_cons, List.sum_cons, ab_sz_cat st]
    rfl
  | .inr (.inr (.inr q)) :: st => by
    rw [List.map_cons, List.map_cons, List.sum_cons, ab_sz_cat st]
    rfl
theorem ab_W1_blind {G : ab_G} {M : ab_M} {av : List Value} : FrameBlind (va_Pc av (ab_W1 G M)) := by
  intro a U g mk q
  obtain ⟨q0, q1, q2, q3, q4, q5, q6⟩ := q
  have e : U.vm.Alike (U.calling g mk a).vm := Vm.Alike.refl U.vm
  exact ⟨q0, q1, va_K.moved e q2, q3, ab_T_vm e q4, va_Z.moved e q5, q6⟩
theorem ab_W1_of {G : ab_G} {M : ab_M} {s U : State} {H : Heap} {locs : List Loc} (h : ab_W0 G M s H locs) (hU : U.heap = H) (hv : s.WarmedH U.vm) : ab_W1 G M U := by
  obtain ⟨h1, h2, h3, h4, h5, h6, h7, h8, h9⟩ := h
  refine ⟨by rw [hU]; exact h1, va_K.moved hv.alike h2, h3, by rw [hU]; exact ab_T_vm hv.alike h5, ?_, h7⟩
  rw [hU]
  refine va_Z.moved hv.alike (va_Z.kept h6 fun a ha hA => ?_)
  exact h4.2.1 a ha hA
/-- behind a call -/
theorem ab_after {G : ab_G} {K' : ab_K} {p : Program} {l : Launch} {e : Env} {s : State} {m : MethodId} {args : Array Value} {below : List Frame} {meth : Method} {c : Code} {H : Heap} {locs : List Loc} {lr : Array Slot} {rest : List ab_V} {g : List Value} {Q : State → Prop} {a : Array Value} {ls : ab_L}
    (hr : va_Run p l e (ab_R d) s m args below meth c H locs 0 0 0 0 (F0 m pc lr g) (rest.map (ab_rv G)) (ab_Q G K' a) (ab_A G)) (hW : ab_W0 G M s H locs) (hO : ab_ok ls rest)
    (kk : ∀ (r : Option ab_V) (M' : ab_M) (H1 : Heap) (locs1 : List Loc), K' r M' → ab_W0 G M' s H1 locs1 → ab_ok ls (ab_pu r rest) → W p l e (ab_R d) s m args below meth c H1 locs1 0 0 Q (F0 m (pc + 3) lr ((ab_pu r rest).map (ab_rv G)))) : W p l e (ab_R d) s m args below meth c H locs 0 0 Q (F0 m pc lr g) := by
  intro T hT X
  obtain ⟨v, st₀, t, T', L, h0, X', hL, e1, e2, ⟨r, M', ho, hrok, hK, hP, hD, hTT, hX, hF⟩, stp⟩ := hr T hT X
  obtain ⟨w1, w2, w3, w4, w5, w6, w7, w8, w9⟩ := hW
  have hvr : v = r.map (ab_rv G) := Outcome.returned.inj ho
  have hal : s.vm.Alike t.vm := by rw [← e2]; exact X'.warmed.alike
  unfold va_F at hF
  rw [h0] at hF
  have hS : va_S (ab_A G) s.heap T'.heap (locs ++ L) := by
    rw [e1]
    refine ⟨Nat.le_trans w4.1 hF.1, fun q h1 h2 => (hF.2 q (Nat.lt_of_lt_of_le h1 w4.1) h2).trans (w4.2.1 q h1 h2), fun q hq => ?_⟩
    rcases List.mem_append.mp hq with h | h
    · exact w4.2.2 q h
    · exact hL q h
  have hok : ab_ok ls (ab_pu r rest) := by
    cases r with
    | none => exact hO
    | some w => exact ab_ok_cons hO (hrok w rfl)
  obtain ⟨t2, a1, b1⟩ := kk r M' T'.heap (locs ++ L) hK ⟨by rw [e1]; exact hP, w2, hD, hS, by rw [e1]; exact ab_T_vm hal.symm hTT, w6, hX, w8, w9⟩ hok T' rfl X'
  refine ⟨t2, stp t2 ?_, b1⟩
  have e3 : v.toList ++ rest.map (ab_rv G) = (ab_pu r rest).map (ab_rv G) := by
    rw [hvr]
    cases r <;> rfl
  rw [e3]
  exact a1
theorem ab_map_nr {G : ab_G} (as : List ab_V) : (as.map ab_nr).map (ab_rv G) = as.map (ab_rv G) := by
  rw [List.map_map]
  exact List.map_congr_left fun v _ => ab_rv_nr v
theorem abo_invS {idx id n : Nat} (hd : decode mi.2.1 pc = .ok (.invokestatic idx, 3)) (hy : ab_okS mi.1.cls idx id n) (hn : ab_N mi d K nx (pc + 3)) (h : ab_inv d id n nx (fun _ => true) ls st M) : ab_At mi d pc ls st M K := by
  unfold ab_inv at h
  split at h
  · rename_i as rest htk
    split at h
    · rename_i hok
      split at h
      · rename_i d
        obtain ⟨xs, hx1, hx2, hx3⟩ := ab_tk_spec _ _ _ _ _ htk
        rw [List.append_nil] at hx3
        simp only [Bool.true_and] at hok
        have hsz : ab_sz rest ≤ 8 := Nat.le_of_ble_eq_true hok
        intro p l e s m args below meth c G H locs lr hC hW hL hO
        obtain ⟨⟨y1, y2, y3, y4⟩, y5, y6⟩ := hy
        have hOr : ab_ok ls rest := ⟨hO.1, fun w hw => hO.2 w (by rw [hx2]; exact List.mem_append_right _ hw)⟩
        have hMet := h (fun w hw => by
          obtain ⟨w', hw', e⟩ := List.mem_map.mp hw
          rw [← e]
          exact ab_okV_nr (hO.2 w' (by rw [hx2]; rw [hx3] at hw'; exact List.mem_append_left _ (List.mem_reverse.mp hw')))) l G
        rw [ab_map_nr] at hMet
        have ht := hC.2.2.2.2.2.1
        have cw : CallB (ab_R (d + 1)) s args mi.1.cls idx (ab_mi id).1 (ab_mi id).2.1 (ab_mi id).2.2.1 (ab_mi id).2.2.2 (ab_wd (ab_mi id)) (ab_R d) 0 0 n := callB_of n ht (ab_wd_good y1) rfl rfl rfl (ht _ y2) (ht _ y5) y3 ⟨Nat.le_refl _, by show 8 + (_ + 11) + 41 * d ≤ 41 * (d + 1); omega⟩
        refine ab_after (rest := rest) (va_runS (As := as.map (ab_rv G)) ⟨hC.1, hC.2.1, hC.2.2.2.1, hC.2.2.2.2.1, ht⟩ hMet ⟨cw, ht _ y6⟩ ⟨ab_W1_blind, fun U hU hv => ⟨rfl, ab_W1_of hW hU hv⟩⟩ rfl (by rw [List.length_map, hx3, List.length_reverse]; exact hx1) hL.1 ?_ ?_ hd ⟨Nat.le_refl _, Nat.le_refl _⟩) hW hOr ?_
        · rw [hx2, hx3, List.map_append, List.map_reverse, List.reverse_reverse]
        · show 2 * 0 + _ ≤ 8
          rw [ab_sz_cat]; omega
        · intro r M' H1 locs1 hK hW1 hok1
          exact hn _ _ _ hK p l e s m args below meth c G H1 locs1 lr hC hW1 hL hok1
      · exact h.elim
    · exact h.elim
  · exact h.elim
theorem abo_invV {idx id n cn : Nat} (hd : decode mi.2.1 pc = .ok (.invokevirtual idx, 3)) (hy : ab_okN mi.1.cls idx id n cn) (hn : ab_N mi d K nx (pc + 3)) (h : ab_inv d id (n + 1) nx (ab_rc cn) ls st M) : ab_At mi d pc ls st M K := by
  unfold ab_inv at h
  split at h
  · rename_i as rest htk
    split at h
    · rename_i hok
      split at h
      · rename_i d
        obtain ⟨xs, hx1, hx2, hx3⟩ := ab_tk_spec _ _ _ _ _ htk
        rw [List.append_nil] at hx3
        rw [Bool.and_eq_true] at hok
        have hsz : ab_sz rest ≤ 8 := Nat.le_of_ble_eq_true hok.2
        have hrc := hok.1
        unfold ab_rc at hrc
        split at hrc
        · rename_i as g i as'
          split at hrc
          · rename_i a1 ci a2 a3 a4 hg
            have hcn : ci = cn := Nat.eq_of_beq_eq_true hrc
            subst hcn
            intro p l e s m args below meth c G H locs lr hC hW hL hO
            obtain ⟨⟨y1, y2, y3, y4⟩, y5, y6, y7, y8⟩ := hy
            have hOr : ab_ok ls rest := ⟨hO.1, fun w hw => hO.2 w (by rw [hx2]; exact List.mem_append_right _ hw)⟩
            have hall : ∀ w ∈ (.inr (.inr (.inr (g, i))) :: as' : List ab_V), ab_okV w := fun w hw => hO.2 w (by rw [hx2]; rw [hx3] at hw; exact List.mem_append_left _ (List.mem_reverse.mp hw))
            have hi : i < ab_cnt g := hall _ List.mem_cons_self
            have hg70 : g < 70 := ab_g70 (by rw [hg]; exact Nat.le_of_ble_eq_true rfl)
            have hMet := h (fun w hw => by
              obtain ⟨w', hw', e⟩ := List.mem_map.mp hw
              rw [← e]
              exact ab_okV_nr (hall w' hw')) l G
            rw [ab_map_nr] at hMet
            have ht := hC.2.2.2.2.2.1
            have cw : CallB (ab_R (d + 1)) s args mi.1.cls idx (ab_mi id).1 (ab_mi id).2.1 (ab_mi id).2.2.1 (ab_mi id).2.2.2 (ab_wd (ab_mi id)) (ab_R d) 0 0 n := callB_of n ht (ab_wd_good y1) rfl rfl rfl (ht _ y2) (ht _ y5) y3 ⟨Nat.le_refl _, by show 8 + (_ + 11) + 41 * d ≤ 41 * (d + 1); omega⟩
            have hws := ab_ws_at G M hg70 hi
            have hc : ab_cel G M g i = .inr (ci, ab_fs G M g i) := by unfold ab_cel; rw [hg]; first | done | rfl
            rw [hc] at hws
            obtain ⟨q, hq, hqc⟩ : ∃ q, vwCl[ci]? = some q ∧ q.1 = (ab_mi id).1.cls := by
              cases hv : vwCl[ci]? with
              | none => rw [hv] at y8; cases y8
              | some q => rw [hv] at y8; exact ⟨q, rfl, Option.some.inj y8⟩
            have hrv := va_recv hW.2.1 hW.1 hq hws
            rw [hqc] at hrv
            have hlen : as'.length = n := by
              have := congrArg List.length hx3
              rw [List.length_reverse, hx1, List.length_cons] at this
              omega
            refine ab_after (rest := rest) (va_runV (As := as'.map (ab_rv G)) (b := G.2.2.1 (ab_pl g i)) ⟨hC.1, hC.2.1, hC.2.2.2.1, hC.2.2.2.2.1, ht⟩ hMet ⟨cw, ht _ y6, ht _ y7⟩ ⟨ab_W1_blind, hrv, fun U hU hv => ⟨rfl, ab_W1_of hW hU hv⟩⟩ rfl (by rw [List.length_map]; exact hlen) hL.1 ?_ ?_ hd ⟨Nat.le_refl _, Nat.le_refl _⟩) hW hOr ?_
            · have hxs : xs = as'.reverse ++ [.inr (.inr (.inr (g, i)))] := by
                have := congrArg List.reverse hx3
                rw [List.reverse_reverse, List.reverse_cons] at this
                exact this.symm
              show st.map (ab_rv G) = _
              rw [hx2, hxs]
              simp [List.map_append, List.map_reverse, ab_rv]
            · show 2 * 0 + _ ≤ 8
              rw [ab_sz_cat]; omega
            · intro r M' H1 locs1 hK hW1 hok1
              exact hn _ _ _ hK p l e s m args below meth c G H1 locs1 lr hC hW1 hL hok1
          · cases hrc
        · cases hrc
      · exact h.elim
    · exact h.elim
  · exact h.elim
/-- copying of a row -/
theorem ab_sC_other {M : ab_M} {g i a h j b n : Nat} : ∀ x y, ¬ (x = h ∧ y = j) → (ab_sC M g i a h j b n).1 x y = M.1 x y ∧ (ab_sC M g i a h j b n).2.1 x y = M.2.1 x y ∧ (ab_sC M g i a h j b n).2.2 x y = M.2.2 x y := by
  intro x y hh
  refine ⟨?_, rfl, rfl⟩
  funext k
  show (if x = h ∧ y = j ∧ b ≤ k ∧ k < b + n then M.1 g i (a + (k - b)) else M.1 x y k) = _
  rw [if_neg (fun q => hh ⟨q.1, q.2.1⟩)]
theorem ab_sC_row {M : ab_M} {g i a h j b n : Nat} : (ab_sC M g i a h j b n).1 h j = va_cpy (M.1 g i) (M.1 h j) a b n := by
  funext k
  show (if h = h ∧ j = j ∧ b ≤ k ∧ k < b + n then M.1 g i (a + (k - b)) else M.1 h j k) = if b ≤ k ∧ k < b + n then _ else _
  simp
theorem ab_cel_int {G : ab_G} {g i : Nat} (hg : (ab_gi g).1 = 0 ∨ (ab_gi g).1 = 6) : g < 70 ∧ ab_ls g i < 1000 ∧ ∀ M, ab_cel G M g i = .inl (G.2.2.2 0, ab_ls g i, .inl (M.1 g i)) := by
  have hlen := ab_gn g
  refine ⟨ab_g70 (by omega), ?_, fun M => ?_⟩
  · unfold ab_ls
    split
    · split <;> omega
    · exact hlen
  · obtain ⟨k, c1, n, c2, c3, c4⟩ : ∃ k : Nat × Nat × Nat × Nat × Nat × Nat, ab_gi g = k := ⟨_, rfl⟩
    unfold ab_cel ab_ls
    generalize ab_gi g = q at hg ⊢
    obtain ⟨q1, q2, q3, q4, q5, q6⟩ := q
    rcases hg with hg | hg
    · have : q1 = 0 := hg
      subst this
      rfl
    · have : q1 = 6 := hg
      subst this
      rfl
theorem abo_acp {idx : Nat} (hd : decode mi.2.1 pc = .ok (.invokestatic idx, 3)) (hl : Cond.methodLink mi.1.cls idx arraycopyName ∈ ab_tb) (hn : ab_N mi d K nx (pc + 3)) (h : ab_acp d nx ls st M) : ab_At mi d pc ls st M K := by
  unfold ab_acp at h
  split at h
  · exact h.elim
  · rename_i d
    split at h
    · rename_i st n b gh jj a gg ii rest
      split at h
      · rename_i n b a hvn hvb hva
        split at h
        · rename_i hsz hkh hkg
          obtain ⟨a', b', n', rfl, rfl, rfl, hla, hlb, h⟩ := h
          intro p l e s m args below meth c G H locs lr hC hW hL hO
          have hsz : ab_sz rest ≤ 8 := Nat.le_of_ble_eq_true hsz
          have hO5 := ab_ok_tail (ab_ok_tail (ab_ok_tail (ab_ok_tail (ab_ok_tail hO))))
          have hj : jj < ab_cnt gh := ab_ok_head (ab_ok_tail (ab_ok_tail hO))
          have hi : ii < ab_cnt gg := ab_ok_head (ab_ok_tail (ab_ok_tail (ab_ok_tail (ab_ok_tail hO))))
          rw [Bool.or_eq_true] at hkh hkg
          obtain ⟨g70, gl, gc⟩ := ab_cel_int (G := G) (g := gg) (i := ii) (hkg.imp Nat.eq_of_beq_eq_true Nat.eq_of_beq_eq_true)
          obtain ⟨h70, hll, hc⟩ := ab_cel_int (G := G) (g := gh) (i := jj) (hkh.imp Nat.eq_of_beq_eq_true Nat.eq_of_beq_eq_true)
          have ws0 := ab_ws_at G M g70 hi
          have ws1 := ab_ws_at G M h70 hj
          rw [gc] at ws0
          rw [hc] at ws1
          rw [List.map_cons, List.map_cons, List.map_cons, List.map_cons, List.map_cons, ab_nv_use hvn, ab_nv_use hvb, ab_nv_use hva]
          have ht := hC.2.2.2.2.2.1
          refine va_copyi hC.1 hC.2.1 (hC.2.2.2.1.trans hL.1.symm) hC.2.2.2.2.1 (ht _ hl) (ht (.native arraycopyName) (by decide +kernel)) (ht (.static arraycopyName) (by decide +kernel)) (ht (.initialized "java/lang/System") (by decide +kernel)) hW.2.1 hW.1 hW.2.2.1 hW.2.2.2.1 _ _ 0 0 ws0 ws1 rfl rfl rfl (nI_pos (by omega)) (nI_pos (by omega)) (nI_pos (by omega)) (by rw [nI_clamp (by omega), nI_clamp (by omega)]; exact hla) (by rw [nI_clamp (by omega), nI_clamp (by omega)]; exact hlb) (fun i hi => rfl) (Nat.le_add_left 1 d) ?_ hd fun H1 locs1 hP hD hS => ?_
          · rw [ab_sz_cat]
            show ab_sz rest + (nativeFrameWords "java/lang/System" "arraycopy" 5 + 11) ≤ 41 * (d + 1)
            have e : nativeFrameWords "java/lang/System" "arraycopy" 5 = 7 := by decide +kernel
            omega
          · rw [nI_clamp (by omega), nI_clamp (by omega), nI_clamp (by omega), ← ab_sC_row (M := M), ← hc (ab_sC M gg ii a' gh jj b' n')] at hP hD
            exact hn _ _ _ h p l e s m args below meth c G H1 locs1 lr hC (ab_W0_set hW h70 hj ab_sC_other hW.2.2.2.2.2.2.1 hP hD hS) hL hO5
        · exact h.elim
      · exact h.elim
    · exact h.elim
theorem abo_mn {idx : Nat} (hd : decode mi.2.1 pc = .ok (.invokestatic idx, 3)) (hl : Cond.methodLink mi.1.cls idx Lib.Math.min.name ∈ ab_tb) (hst : Cond.static Lib.Math.min.name ∈ ab_tb) (hin : Cond.initialized "java/lang/Math" ∈ ab_tb) (hco : Cond.code Lib.Math.min.name Lib.Math.min.code 2 (some .int) ∈ ab_tb) (hn : ab_N mi d K nx (pc + 3)) (h : ab_mn d nx ls st M) : ab_At mi d pc ls st M K := by
  unfold ab_mn at h
  split at h
  · rename_i d y x rest
    split at h
    · rename_i x y hx hy hsz
      intro p l e s m args below meth c G H locs lr hC hW hL hO
      have ht := hC.2.2.2.2.2.1
      have hsz : ab_sz rest ≤ 8 := Nat.le_of_ble_eq_true hsz
      rw [List.map_cons, List.map_cons, ab_nv_use hx, ab_nv_use hy]
      exact va_mmin hC.1 hC.2.1 (hC.2.2.2.1.trans hL.1.symm) hC.2.2.2.2.1 (ht _ hl) (ht _ hst) (ht _ hin) (ht _ hco) (Nat.le_add_left 1 d) (by rw [ab_sz_cat]; show _ ≤ 41 * (d + 1); omega) (Nat.le_refl _) (Nat.le_refl _) hd (hn _ _ _ h p l e s m args below meth c G H locs lr hC hW hL (ab_ok_cons (ab_ok_tail (ab_ok_tail hO)) trivial))
    · exact h.elim
  · exact h.elim
theorem abo_gets {idx : Nat} (hd : decode mi.2.1 pc = .ok (.getstatic idx, 3)) (hl : Cond.fieldLink mi.1.cls idx "PaperTrail$Odds" "FACTORIALS" "[I" ∈ ab_tb) (hn : ab_N mi d K nx (pc + 3)) (h : nx ls (vr 70 0 :: st) M) : ab_At mi d pc ls st M K := by
  intro p l e s m args below meth c G H locs lr hC hW hL hO
  exact va_gets hC.1 hC.2.1 hW.2.2.2.2.2.1 hW.2.2.2.1 hC.2.2.2.2.1 (hC.2.2.2.2.2.1 _ hl) (fun _ h9 => h9) hd (hn _ _ _ h p l e s m args below meth c G H locs lr hC hW hL (ab_ok_cons hO (show 0 < ab_cnt 70 by decide +kernel)))
/-- the end -/
theorem ab_end {G : ab_G} {s t : State} {H : Heap} {locs : List Loc} {r : Option ab_V} {args : Array Value} (hW : ab_W0 G M s H locs) (hr : ∀ v, r = some v → ab_okV v) (hK : K r M) (ht : t.heap = H) (hv : s.WarmedH t.vm) : ab_Q G K args s (.returned (r.map (ab_rv G))) t := by
  obtain ⟨h1, h2, h3, h4, h5, h6, h7, h8, h9⟩ := hW
  exact ⟨r, M, rfl, hr, hK, by rw [ht]; exact h1, h3, by rw [ht]; exact ab_T_vm hv.alike h5, h7, h4.F ht⟩
theorem abo_ret {ins : Instr} (hi : ins = .ireturn ∨ ins = .lreturn ∨ ins = .return_) (hd : decode mi.2.1 pc = .ok (ins, 1)) (hk : match mi.2.2.2 with | some .int => ins = .ireturn | some .boolean => ins = .ireturn | some .long => ins = .lreturn | none => ins = .return_ | _ => False) (h : ab_ret mi K ls st M) : ab_At mi d pc ls st M K := by
  intro p l e s m args below meth c G H locs lr hC hW hL hO
  have hlk := hC.2.2.2.2.2.2
  have hf := hW.2.2.2.1.2.2
  unfold ab_ret at h
  split at h
  · rename_i st v
    have hv := ab_ok_head hO
    split at h
    · rename_i hr
      rw [hr] at hk
      have hk : ins = .ireturn := hk
      subst hk
      have go : ∀ x, ab_rv G v = .int x → K (some v) M → W p l e (ab_R d) s m args below meth c H locs 0 0 (MQ below (ab_Q G K) args s 0 0 (ab_A G)) (F0 m pc lr ([v].map (ab_rv G))) := by
        intro x hx hK
        have hq : ∀ t : State, t.heap = H → s.WarmedH t.vm → ab_Q G K args s (.returned (some (.int x))) t := fun t ht hvm => by
          have := ab_end (args := args) hW (r := some v) (fun w hw => by cases hw; exact hv) hK ht hvm
          rw [Option.map_some, hx] at this
          exact this
        rw [List.map_cons, List.map_nil, hx]
        exact W.iret hC.1 hC.2.1 (hC.2.2.1.trans hr) hq hf hd hlk
      split at h
      · exact go _ rfl h
      · exact go _ rfl h
      · exact h.elim
    · rename_i hr
      rw [hr] at hk
      have hk : ins = .ireturn := hk
      subst hk
      have go : ∀ x, ab_rv G v = .int x → (x = 0 ∨ x = 1) → K (some v) M → W p l e (ab_R d) s m args below meth c H locs 0 0 (MQ below (ab_Q G K) args s 0 0 (ab_A G)) (F0 m pc lr ([v].map (ab_rv G))) := by
        intro x hx h01 hK
        have hq : ∀ t : State, t.heap = H → s.WarmedH t.vm → ab_Q G K args s (.returned (some (.int x))) t := fun t ht hvm => by
          have := ab_end (args := args) hW (r := some v) (fun w hw => by cases hw; exact hv) hK ht hvm
          rw [Option.map_some, hx] at this
          exact this
        rw [List.map_cons, List.map_nil, hx]
        refine W.zret hC.1 hC.2.1 (hC.2.2.1.trans hr) ?_ hq hf hd hlk
        rcases h01 with e | e <;> subst e <;> rfl
      split at h
      · exact go _ rfl (Or.inl rfl) h
      · exact go _ rfl (Or.inr rfl) h
      · exact go _ rfl h.1 h.2
      · exact h.elim
    · rename_i hr
      rw [hr] at hk
      have hk : ins = .lreturn := hk
      subst hk
      split at h
      · exact W.lret hC.1 hC.2.1 (hC.2.2.1.trans hr) (fun t ht hvm => ab_end (args := args) hW (r := some (vl _)) (fun w hw => by cases hw; exact hv) h ht hvm) hf hd hlk
      · exact h.elim
    · exact h.elim
  · split at h
    · rename_i hr
      rw [hr] at hk
      have hk : ins = .return_ := hk
      subst hk
      exact W.vret hC.1 hC.2.1 (hC.2.2.1.trans hr) (fun t ht hvm => ab_end (args := args) hW (r := none) (fun w hw => by cases hw) h ht hvm) hf hd hlk
    · exact h.elim
  · exact h.elim
end ABC
