/-! ===== the law's calls, its end ===== -/
section LBC
variable {mi : ab_I} {d pc : Nat} {K : ab_K} {nx tg : ab_P} {ls : ab_L} {st : List ab_V} {M : ab_M}
theorem lb_after {G : ab_G} {K' : ab_K} {p : Program} {l : Launch} {e : Env} {s : State} {m : MethodId} {args : Array Value} {below : List Frame} {meth : Method} {c : Code} {H : Heap} {locs : List Loc} {lr : Array Slot} {rest : List ab_V} {g : List Value} {Q : State → Prop} {a : Array Value} {ls : ab_L}
    (hr : va_Run p l e room_1 s m args below meth c H locs 600000 7302250 0 0 (F0 m pc lr g) (rest.map (ab_rv G)) (ab_Q G K' a) (ab_A G)) (hW : ab_W0 G M s H locs) (hO : ab_ok ls rest)
    (kk : ∀ (r : Option ab_V) (M' : ab_M) (H1 : Heap) (locs1 : List Loc), K' r M' → ab_W0 G M' s H1 locs1 → ab_ok ls (ab_pu r rest) → W p l e room_1 s m args below meth c H1 locs1 600000 7302250 Q (F0 m (pc + 3) lr ((ab_pu r rest).map (ab_rv G)))) : W p l e room_1 s m args below meth c H locs 600000 7302250 Q (F0 m pc lr g) := by
  intro T hT X
  obtain ⟨v, st₀, t, T', L, h0, X', hL, e1, e2, ⟨r, M', ho, hrok, hK, hP, hD, hTT, hX, hF⟩, stp⟩ := hr T hT X
  obtain ⟨w1, w2, w3, w4, w5, w6, w7, w8, w9⟩ := hW
  have hvr : v = r.map (ab_rv G) := Outcome.returned.inj ho
  have hal : s.vm.Alike t.vm := by rw [← e2]; exact X'.warmed.alike
  unfold va_F at hF
  rw [h0] at hF
  have hS : va_S (ab_A G) s.heap T'.heap (locs ++ L) := by
    rw [e1]
    refine ⟨Nat.le_trans w4.1 hF.1, fun q h1 h2 => (hF.2 q (Nat.lt_of_lt_of_le h1 w4.1) h2).trans (w4.2.1 q h1 h2), fun q hq => ?_⟩
    rcases List.mem_append.mp hq with h | h
    · exact w4.2.2 q h
    · exact hL q h
  have hok : ab_ok ls (ab_pu r rest) := by
    cases r with
    | none => exact hO
    | some w => exact ab_ok_cons hO (hrok w rfl)
  obtain ⟨t2, a1, b1⟩ := kk r M' T'.heap (locs ++ L) hK ⟨by rw [e1]; exact hP, w2, hD, hS, by rw [e1]; exact ab_T_vm hal.symm hTT, w6, hX, w8, w9⟩ hok T' rfl X'
  refine ⟨t2, stp t2 ?_, b1⟩
  have e3 : v.toList ++ rest.map (ab_rv G) = (ab_pu r rest).map (ab_rv G) := by
    rw [hvr]
    cases r <;> rfl
  rw [e3]
  exact a1
theorem lbo_invV {idx id n cn : Nat} (hd40 : d ≤ 1000) (hd : decode mi.2.1 pc = .ok (.invokevirtual idx, 3)) (hy : ab_okN mi.1.cls idx id n cn) (hmx : (ab_mi id).2.2.1 ≤ 1000) (hn : lb_N mi nx (pc + 3)) (h : ab_inv d id (n + 1) nx (ab_rc cn) ls st M) : lb_At mi pc ls st M := by
  unfold ab_inv at h
  split at h
  · rename_i as rest htk
    split at h
    · rename_i hok
      split at h
      · rename_i d
        obtain ⟨xs, hx1, hx2, hx3⟩ := ab_tk_spec _ _ _ _ _ htk
        rw [List.append_nil] at hx3
        rw [Bool.and_eq_true] at hok
        have hsz : ab_sz rest ≤ 8 := Nat.le_of_ble_eq_true hok.2
        have hrc := hok.1
        unfold ab_rc at hrc
        split at hrc
        · rename_i as g i as'
          split at hrc
          · rename_i a1 ci a2 a3 a4 hg
            have hcn : ci = cn := Nat.eq_of_beq_eq_true hrc
            subst hcn
            intro p l e s m args below meth c G H locs lr hC hW hL hO
            obtain ⟨⟨y1, y2, y3, y4⟩, y5, y6, y7, y8⟩ := hy
            have hOr : ab_ok ls rest := ⟨hO.1, fun w hw => hO.2 w (by rw [hx2]; exact List.mem_append_right _ hw)⟩
            have hall : ∀ w ∈ (.inr (.inr (.inr (g, i))) :: as' : List ab_V), ab_okV w := fun w hw => hO.2 w (by rw [hx2]; rw [hx3] at hw; exact List.mem_append_left _ (List.mem_reverse.mp hw))
            have hi : i < ab_cnt g := hall _ List.mem_cons_self
            have hg70 : g < 70 := ab_g70 (by rw [hg]; exact Nat.le_of_ble_eq_true rfl)
            have hMet := h (fun w hw => by
              obtain ⟨w', hw', e⟩ := List.mem_map.mp hw
              rw [← e]
              exact ab_okV_nr (hall w' hw')) l G
            rw [ab_map_nr] at hMet
            have ht := hC.2.2.2.2.2.1
            have cw : CallB room_1 s args mi.1.cls idx (ab_mi id).1 (ab_mi id).2.1 (ab_mi id).2.2.1 (ab_mi id).2.2.2 (ab_wd (ab_mi id)) (ab_R d) 0 0 n := callB_of n ht (ab_wd_good y1) rfl rfl rfl (ht _ y2) (ht _ y5) y3 ⟨by show d + 1 ≤ 2048; omega, by show 8 + (_ + 11) + 41 * d ≤ 84000; have := hmx; omega⟩
            have hws := ab_ws_at G M hg70 hi
            have hc : ab_cel G M g i = .inr (ci, ab_fs G M g i) := by unfold ab_cel; rw [hg]; first | done | rfl
            rw [hc] at hws
            obtain ⟨q, hq, hqc⟩ : ∃ q, vwCl[ci]? = some q ∧ q.1 = (ab_mi id).1.cls := by
              cases hv : vwCl[ci]? with
              | none => rw [hv] at y8; cases y8
              | some q => rw [hv] at y8; exact ⟨q, rfl, Option.some.inj y8⟩
            have hrv := va_recv hW.2.1 hW.1 hq hws
            rw [hqc] at hrv
            have hlen : as'.length = n := by
              have := congrArg List.length hx3
              rw [List.length_reverse, hx1, List.length_cons] at this
              omega
            refine lb_after (rest := rest) (va_runV (As := as'.map (ab_rv G)) (b := G.2.2.1 (ab_pl g i)) ⟨hC.1, hC.2.1, hC.2.2.2.1, hC.2.2.2.2.1, ht⟩ hMet ⟨cw, ht _ y6, ht _ y7⟩ ⟨ab_W1_blind, hrv, fun U hU hv => ⟨rfl, ab_W1_of hW hU hv⟩⟩ rfl (by rw [List.length_map]; exact hlen) hL.1 ?_ ?_ hd ⟨Nat.le_refl _, Nat.le_refl _⟩) hW hOr ?_
            · have hxs : xs = as'.reverse ++ [.inr (.inr (.inr (g, i)))] := by
                have := congrArg List.reverse hx3
                rw [List.reverse_reverse, List.reverse_cons] at this
                exact this.symm
              show st.map (ab_rv G) = _
              rw [hx2, hxs]
              simp [List.map_append, List.map_reverse, ab_rv]
            · show 2 * 0 + _ ≤ 8
              rw [ab_sz_cat]; omega
            · intro r M' H1 locs1 hK hW1 hok1
              exact hn _ _ _ hK p l e s m args below meth c G H1 locs1 lr hC hW1 hL hok1
          · cases hrc
        · cases hrc
      · exact h.elim
    · exact h.elim
  · exact h.elim
/-- the law's end -/
def lb_K : ab_K := fun r _ => r = some (.inl 1)
theorem lbo_ret (hmi : mi = (x, code, 4, ret)) (hd : decode mi.2.1 pc = .ok (.ireturn, 1)) (h : ab_ret mi lb_K ls st M) : lb_At mi pc ls st M := by
  subst hmi
  intro p l e s m args below meth c G H locs lr hC hW hL hO
  obtain ⟨h1, h2, h3, h4, h5, h6, h7, h8, b, rfl⟩ := hC
  have hst : st = [.inl 1] := by
    unfold ab_ret lb_K at h
    split at h
    · split at h
      · split at h
        · exact congrArg (fun v => [v]) (Option.some.inj h)
        · exact congrArg (fun v => [v]) (Option.some.inj h)
        · exact h.elim
      · split at h
        · exact congrArg (fun v => [v]) (Option.some.inj h)
        · exact congrArg (fun v => [v]) (Option.some.inj h)
        · exact congrArg (fun v => [v]) (Option.some.inj h.2)
        · exact h.elim
      · split at h
        · exact congrArg (fun v => [v]) (Option.some.inj h)
        · exact h.elim
      · exact h.elim
    · split at h
      · exact absurd h (by simp)
      · exact h.elim
    · exact h.elim
  subst hst
  refine va_forget (fun q hq => ?_) (lw_ret h1 h2 h3 h7 hd)
  obtain ⟨n, hn, e⟩ := hW.2.2.2.1.2.2 q hq
  rw [e]
  exact h8 n hn
end LBC
