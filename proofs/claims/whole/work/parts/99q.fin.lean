/-! ===== the world behind the two constructors is the first memory ===== -/
def sy_pm : List Nat := [0, 1, 2, 3, 4, 5, 6, 7, 8, 9, 10, 11, 12, 13, 14, 15, 38, 16, 17, 27, 18, 28, 19, 29, 20, 21, 22, 23, 24, 25, 26, 30, 31, 32, 33, 34, 35, 36, 37, 39, 45, 50, 55, 85, 40, 46, 51, 56, 86, 41, 47, 52, 57, 87, 42, 48, 53, 58, 88, 43, 49, 54, 59, 89, 44, 60, 61, 62, 63, 64, 65, 66, 67, 68, 69, 70, 71, 72, 73, 74, 75, 76, 77, 78, 79, 80, 81, 82, 83, 84, 90, 91, 92, 93, 94, 95, 96, 97, 98, 99, 100, 101, 102, 103, 104, 105, 106, 107, 108, 109, 110, 111, 112, 113, 114, 115, 116, 117, 118, 119]
/-- the map of the places -/
def finG (al : List Nat) (ca : Nat → ClassId) (D : va_G) (fa b : Nat) : ab_G := (D.1, D.2, fun n => (sy_pm.map (fun k => al.getD k 0) ++ [fa, b]).getD n 0, ca)
theorem finG_at {al : List Nat} {ca : Nat → ClassId} {D : va_G} {fa b n : Nat} (hn : n < 120) : (finG al ca D fa b).2.2.1 n = al.getD (sy_pm.getD n 0) 0 := by
  have hl : sy_pm.length = 120 := by decide +kernel
  show (sy_pm.map (fun k => al.getD k 0) ++ [fa, b]).getD n 0 = _
  rw [List.getD_eq_getElem?_getD, List.getElem?_append_left (by rw [List.length_map, hl]; exact hn), List.getElem?_map, List.getD_eq_getElem?_getD (l := sy_pm)]
  have : sy_pm[n]? = some (sy_pm[n]'(by rw [hl]; exact hn)) := List.getElem?_eq_getElem _
  rw [this]
  rfl
def sy_v (al : List Nat) : sv → Value
  | (0, n) => .int (nI n)
  | (1, _) => .int (-1)
  | (2, n) => .long (lN n)
  | (3, k) => .ref (al.getD k 0)
  | (5, a) => .ref a
  | _ => .null
theorem sy_v_of {al : List Nat} {v : sv} {x : Value} (h : sy_x al v = some x) : x = sy_v al v := by
  unfold sy_x at h
  split at h
  · cases h; rfl
  · cases h; rfl
  · cases h; rfl
  · obtain ⟨a, ha, rfl⟩ := sy_x_ref h
    show Value.ref a = .ref (al.getD _ 0)
    rw [List.getD_eq_getElem?_getD, ha]
    rfl
  · cases h; rfl
  · cases h; rfl
  · cases h
theorem sy_vs_of {al : List Nat} : ∀ {c : List sv} {fs : List Value}, sy_fs al c fs → fs = c.map (sy_v al)
  | [], _, h => h
  | _ :: _, _, ⟨x, xs, h1, h2, h3⟩ => by rw [h3, List.map_cons, ← sy_v_of h1, ← sy_vs_of h2]
section FIN
variable {D D2 : va_G} {ca : Nat → ClassId} {H : Heap} {ws : va_W} {al : List Nat} {G : ab_G} {M : ab_M} {g i a N : Nat} {e : va_E} {cl : List vw_C}
theorem fin_o {ci : Nat} {c : List sv} (h : sy_ce al ca (5, ci, c) e) (hc : ab_cel G M g i = .inr (ci, c.map (sy_v al))) (hv : va_at D cl (a, e) H) : va_at D cl (a, ab_cel G M g i) H := by
  obtain ⟨fs, h1, rfl⟩ := h
  rw [hc, ← sy_vs_of h1]
  exact hv
theorem fin_z (h : sy_ce al ca (0, N, []) e) (hc : ab_cel G M g i = .inl (ca 0, N, .inl (fun _ => nI 0))) (hv : va_at D cl (a, e) H) : va_at D cl (a, ab_cel G M g i) H := by
  have h : e = .inl (ca 0, N, .inl (sy_f [])) := h
  subst h
  rw [hc, nI_0]
  exact hv
theorem fin_b (h : sy_ce al ca (1, N, []) e) (hc : ab_cel G M g i = .inl (ca 1, N, .inl (fun _ => nI 0))) (hv : va_at D cl (a, e) H) : va_at D cl (a, ab_cel G M g i) H := by
  have h : e = .inl (ca 1, N, .inl (fun _ => 0)) := h
  subst h
  rw [hc, nI_0]
  exact hv
theorem fin_l (h : sy_ce al ca (2, N, []) e) (hc : ab_cel G M g i = .inl (ca 2, N, .inr (.inl (fun _ => lN 0)))) (hv : va_at D cl (a, e) H) : va_at D cl (a, ab_cel G M g i) H := by
  have h : e = .inl (ca 2, N, .inr (.inl (fun _ => 0))) := h
  subst h
  rw [hc, show lN 0 = 0 by decide +kernel]
  exact hv
theorem fin_arr {cI : ClassId} {f f2 : Nat → Value} (h : ∀ j, j < N → f j = f2 j) : arrV cI N f = arrV cI N f2 := by
  unfold arrV
  have : (fun j : Fin N => f j.val) = fun j : Fin N => f2 j.val := funext fun j => h j.val j.isLt
  rw [this]
theorem fin_m {c : List sv} (h : sy_ce al ca (0, N, c) e) (hf : ∀ j, j < N → sy_f c j = -1) (hc : ab_cel G M g i = .inl (ca 0, N, .inl (fun _ => -1))) (hv : va_at D cl (a, e) H) : va_at D cl (a, ab_cel G M g i) H := by
  have h : e = .inl (ca 0, N, .inl (sy_f c)) := h
  subst h
  rw [hc]
  have hv : H[a]? = some (arrV (ca 0) N (fun j => .int (sy_f c j))) := hv
  show H[a]? = some (arrV (ca 0) N (fun j => .int (-1)))
  rw [hv, fin_arr (fun j hj => by rw [hf j hj])]
theorem fin_r {eg em ea b0 : Nat} (h : sy_ce al ca (3, N, [(b0, 0)]) e) (hf : ∀ j, j < N → G.2.2.1 (ab_pl eg (ab_ej em ea i j)) = al.getD (b0 + j) 0) (hc : ab_cel G M g i = .inl (ca 3, N, .inr (.inr (.inr (.inr (fun j => if j < N then some (G.2.2.1 (ab_pl eg (ab_ej em ea i j))) else none)))))) (hv : va_at D cl (a, e) H) : va_at D cl (a, ab_cel G M g i) H := by
  obtain ⟨r, h1, rfl⟩ := h
  rw [hc]
  have : (fun j => if j < N then some (G.2.2.1 (ab_pl eg (ab_ej em ea i j))) else none) = (fun j => if j < N then some (r j) else none) := by
    funext j
    by_cases hj : j < N
    · have h2 : al[b0 + j]? = some (r j) := h1 j hj
      rw [if_pos hj, if_pos hj, hf j hj, List.getD_eq_getElem?_getD, h2]
      rfl
    · rw [if_neg hj, if_neg hj]
  rw [this]
  exact hv
theorem fin_k {k0 k1 k2 : Nat} {f : Nat → Nat} (h : sy_ce al ca (4, 3, [(2, k2), (1, k1), (0, k0)]) e) (h0 : f 0 = al.getD k0 0) (h1 : f 1 = al.getD k1 0) (h2 : f 2 = al.getD k2 0) (hc : ab_cel G M g i = .inl (ca 4, 3, .inr (.inr (.inr (.inr (fun j => if j < 3 then some (f j) else none)))))) (hv : va_at D cl (a, e) H) : va_at D cl (a, ab_cel G M g i) H := by
  obtain ⟨q, ⟨q2, a2, ⟨q1, a1, ⟨q0, a0, hq, e0, rfl⟩, e1, rfl⟩, e2, rfl⟩, rfl⟩ := h
  have hq : q0 = fun _ => none := hq
  subst hq
  rw [hc]
  have e0 : al[k0]? = some a0 := e0
  have e1 : al[k1]? = some a1 := e1
  have e2 : al[k2]? = some a2 := e2
  rw [List.getD_eq_getElem?_getD, e0] at h0
  rw [List.getD_eq_getElem?_getD, e1] at h1
  rw [List.getD_eq_getElem?_getD, e2] at h2
  have : (fun j => if j < 3 then some (f j) else none) = va_up (va_up (va_up (fun _ => none) 0 (some a0)) 1 (some a1)) 2 (some a2) := by
    funext j
    match j with
    | 0 => exact congrArg some h0
    | 1 => exact congrArg some h1
    | 2 => exact congrArg some h2
    | j + 3 => simp [va_up]
  rw [this]
  exact hv
theorem fin_row {n k : Nat} {c : sc} (hw : sy_w ca sy_w2 ws) (hP : va_P D cl ws H) (hk : sy_w2[k]? = some c) (hn : G.2.2.1 n = (sy_al ws).getD k 0) (hcel : ∀ (a : Nat) (e : va_E), sy_ce (sy_al ws) ca c e → va_at D cl (a, e) H → va_at D cl (a, ab_cel G M g i) H) : va_at D cl (G.2.2.1 n, ab_cel G M g i) H := by
  obtain ⟨⟨a, e⟩, hq, hc⟩ := hw.2 k c hk
  have : (sy_al ws)[k]? = some a := by rw [List.getElem?_map, hq]; rfl
  rw [hn, List.getD_eq_getElem?_getD, this]
  exact hcel a e hc (hP k _ hq)
end FIN
section FIR
variable {D : va_G} {ca : Nat → ClassId} {H : Heap} {ws : va_W} {fa b L : Nat} {xs : Nat → Int32}
theorem fin_n0 (hw : sy_w ca sy_w2 ws) (hP : va_P D vwCl ws H) : va_at D vwCl ((finG (sy_al ws) ca D fa b).2.2.1 0, ab_cel (finG (sy_al ws) ca D fa b) (fstM L xs) 0 0) H := fin_row (k := 0) (c := (5, 8, [(3, 1), (3, 10), (3, 17), (3, 27), (3, 37), (3, 39), (3, 44), (3, 60), (3, 61), (3, 90), (3, 94), (3, 97), (3, 99), (0, 0), (0, 0), (2, 0), (2, 1)])) hw hP rfl rfl (fun a e h hv => fin_o h rfl hv)
theorem fin_n1 (hw : sy_w ca sy_w2 ws) (hP : va_P D vwCl ws H) : va_at D vwCl ((finG (sy_al ws) ca D fa b).2.2.1 1, ab_cel (finG (sy_al ws) ca D fa b) (fstM L xs) 1 0) H := fin_row (k := 1) (c := (5, 6, [(3, 2), (3, 9)])) hw hP rfl rfl (fun a e h hv => fin_o h rfl hv)
theorem fin_n2 (hw : sy_w ca sy_w2 ws) (hP : va_P D vwCl ws H) : va_at D vwCl ((finG (sy_al ws) ca D fa b).2.2.1 2, ab_cel (finG (sy_al ws) ca D fa b) (fstM L xs) 2 0) H := fin_row (k := 2) (c := (3, 6, [(3, 0)])) hw hP rfl rfl (fun a e h hv => fin_r (eg := 3) (em := 0) (ea := 0) h (fun j hj => (finG_at ((show ∀ j, j < 6 → ab_pl 3 (ab_ej 0 0 0 j) < 120 by decide +kernel) j hj)).trans (congrArg (fun k => (sy_al ws).getD k 0) ((show ∀ j, j < 6 → sy_pm.getD (ab_pl 3 (ab_ej 0 0 0 j)) 0 = 3 + j by decide +kernel) j hj))) rfl hv)
theorem fin_n3 (hw : sy_w ca sy_w2 ws) (hP : va_P D vwCl ws H) : va_at D vwCl ((finG (sy_al ws) ca D fa b).2.2.1 3, ab_cel (finG (sy_al ws) ca D fa b) (fstM L xs) 3 0) H := fin_row (k := 3) (c := (0, 40, [])) hw hP rfl rfl (fun a e h hv => fin_z h rfl hv)
theorem fin_n4 (hw : sy_w ca sy_w2 ws) (hP : va_P D vwCl ws H) : va_at D vwCl ((finG (sy_al ws) ca D fa b).2.2.1 4, ab_cel (finG (sy_al ws) ca D fa b) (fstM L xs) 3 1) H := fin_row (k := 4) (c := (0, 40, [])) hw hP rfl rfl (fun a e h hv => fin_z h rfl hv)
theorem fin_n5 (hw : sy_w ca sy_w2 ws) (hP : va_P D vwCl ws H) : va_at D vwCl ((finG (sy_al ws) ca D fa b).2.2.1 5, ab_cel (finG (sy_al ws) ca D fa b) (fstM L xs) 3 2) H := fin_row (k := 5) (c := (0, 40, [])) hw hP rfl rfl (fun a e h hv => fin_z h rfl hv)
theorem fin_n6 (hw : sy_w ca sy_w2 ws) (hP : va_P D vwCl ws H) : va_at D vwCl ((finG (sy_al ws) ca D fa b).2.2.1 6, ab_cel (finG (sy_al ws) ca D fa b) (fstM L xs) 3 3) H := fin_row (k := 6) (c := (0, 40, [])) hw hP rfl rfl (fun a e h hv => fin_z h rfl hv)
theorem fin_n7 (hw : sy_w ca sy_w2 ws) (hP : va_P D vwCl ws H) : va_at D vwCl ((finG (sy_al ws) ca D fa b).2.2.1 7, ab_cel (finG (sy_al ws) ca D fa b) (fstM L xs) 3 4) H := fin_row (k := 7) (c := (0, 40, [])) hw hP rfl rfl (fun a e h hv => fin_z h rfl hv)
theorem fin_n8 (hw : sy_w ca sy_w2 ws) (hP : va_P D vwCl ws H) : va_at D vwCl ((finG (sy_al ws) ca D fa b).2.2.1 8, ab_cel (finG (sy_al ws) ca D fa b) (fstM L xs) 3 5) H := fin_row (k := 8) (c := (0, 40, [])) hw hP rfl rfl (fun a e h hv => fin_z h rfl hv)
theorem fin_n9 (hw : sy_w ca sy_w2 ws) (hP : va_P D vwCl ws H) : va_at D vwCl ((finG (sy_al ws) ca D fa b).2.2.1 9, ab_cel (finG (sy_al ws) ca D fa b) (fstM L xs) 4 0) H := fin_row (k := 9) (c := (0, 6, [(5, 0), (4, 0), (3, 0), (2, 0), (1, 0), (0, 0)])) hw hP rfl rfl (fun a e h hv => fin_m h (by decide +kernel) rfl hv)
theorem fin_n10 (hw : sy_w ca sy_w2 ws) (hP : va_P D vwCl ws H) : va_at D vwCl ((finG (sy_al ws) ca D fa b).2.2.1 10, ab_cel (finG (sy_al ws) ca D fa b) (fstM L xs) 5 0) H := fin_row (k := 10) (c := (5, 6, [(3, 11), (3, 16)])) hw hP rfl rfl (fun a e h hv => fin_o h rfl hv)
theorem fin_n11 (hw : sy_w ca sy_w2 ws) (hP : va_P D vwCl ws H) : va_at D vwCl ((finG (sy_al ws) ca D fa b).2.2.1 11, ab_cel (finG (sy_al ws) ca D fa b) (fstM L xs) 6 0) H := fin_row (k := 11) (c := (3, 4, [(12, 0)])) hw hP rfl rfl (fun a e h hv => fin_r (eg := 7) (em := 0) (ea := 0) h (fun j hj => (finG_at ((show ∀ j, j < 4 → ab_pl 7 (ab_ej 0 0 0 j) < 120 by decide +kernel) j hj)).trans (congrArg (fun k => (sy_al ws).getD k 0) ((show ∀ j, j < 4 → sy_pm.getD (ab_pl 7 (ab_ej 0 0 0 j)) 0 = 12 + j by decide +kernel) j hj))) rfl hv)
theorem fin_n12 (hw : sy_w ca sy_w2 ws) (hP : va_P D vwCl ws H) : va_at D vwCl ((finG (sy_al ws) ca D fa b).2.2.1 12, ab_cel (finG (sy_al ws) ca D fa b) (fstM L xs) 7 0) H := fin_row (k := 12) (c := (0, 80, [])) hw hP rfl rfl (fun a e h hv => fin_z h rfl hv)
theorem fin_n13 (hw : sy_w ca sy_w2 ws) (hP : va_P D vwCl ws H) : va_at D vwCl ((finG (sy_al ws) ca D fa b).2.2.1 13, ab_cel (finG (sy_al ws) ca D fa b) (fstM L xs) 7 1) H := fin_row (k := 13) (c := (0, 80, [])) hw hP rfl rfl (fun a e h hv => fin_z h rfl hv)
theorem fin_n14 (hw : sy_w ca sy_w2 ws) (hP : va_P D vwCl ws H) : va_at D vwCl ((finG (sy_al ws) ca D fa b).2.2.1 14, ab_cel (finG (sy_al ws) ca D fa b) (fstM L xs) 7 2) H := fin_row (k := 14) (c := (0, 80, [])) hw hP rfl rfl (fun a e h hv => fin_z h rfl hv)
theorem fin_n15 (hw : sy_w ca sy_w2 ws) (hP : va_P D vwCl ws H) : va_at D vwCl ((finG (sy_al ws) ca D fa b).2.2.1 15, ab_cel (finG (sy_al ws) ca D fa b) (fstM L xs) 7 3) H := fin_row (k := 15) (c := (0, 80, [])) hw hP rfl rfl (fun a e h hv => fin_z h rfl hv)
theorem fin_n16 (hw : sy_w ca sy_w2 ws) (hP : va_P D vwCl ws H) : va_at D vwCl ((finG (sy_al ws) ca D fa b).2.2.1 16, ab_cel (finG (sy_al ws) ca D fa b) (fstM L xs) 7 4) H := fin_row (k := 38) (c := (0, 0, [])) hw hP rfl rfl (fun a e h hv => fin_z h rfl hv)
theorem fin_n17 (hw : sy_w ca sy_w2 ws) (hP : va_P D vwCl ws H) : va_at D vwCl ((finG (sy_al ws) ca D fa b).2.2.1 17, ab_cel (finG (sy_al ws) ca D fa b) (fstM L xs) 8 0) H := fin_row (k := 16) (c := (0, 4, [(3, 0), (2, 0), (1, 0), (0, 0)])) hw hP rfl rfl (fun a e h hv => fin_m h (by decide +kernel) rfl hv)
theorem fin_n18 (hw : sy_w ca sy_w2 ws) (hP : va_P D vwCl ws H) : va_at D vwCl ((finG (sy_al ws) ca D fa b).2.2.1 18, ab_cel (finG (sy_al ws) ca D fa b) (fstM L xs) 9 0) H := fin_row (k := 17) (c := (5, 2, [(0, 0), (0, 0), (0, 0), (3, 18), (3, 19)])) hw hP rfl rfl (fun a e h hv => fin_o h rfl hv)
theorem fin_n19 (hw : sy_w ca sy_w2 ws) (hP : va_P D vwCl ws H) : va_at D vwCl ((finG (sy_al ws) ca D fa b).2.2.1 19, ab_cel (finG (sy_al ws) ca D fa b) (fstM L xs) 9 1) H := fin_row (k := 27) (c := (5, 2, [(0, 0), (0, 0), (0, 0), (3, 28), (3, 29)])) hw hP rfl rfl (fun a e h hv => fin_o h rfl hv)
theorem fin_n20 (hw : sy_w ca sy_w2 ws) (hP : va_P D vwCl ws H) : va_at D vwCl ((finG (sy_al ws) ca D fa b).2.2.1 20, ab_cel (finG (sy_al ws) ca D fa b) (fstM L xs) 10 0) H := fin_row (k := 18) (c := (0, 4, [])) hw hP rfl rfl (fun a e h hv => fin_z h rfl hv)
theorem fin_n21 (hw : sy_w ca sy_w2 ws) (hP : va_P D vwCl ws H) : va_at D vwCl ((finG (sy_al ws) ca D fa b).2.2.1 21, ab_cel (finG (sy_al ws) ca D fa b) (fstM L xs) 10 1) H := fin_row (k := 28) (c := (0, 4, [])) hw hP rfl rfl (fun a e h hv => fin_z h rfl hv)
theorem fin_n22 (hw : sy_w ca sy_w2 ws) (hP : va_P D vwCl ws H) : va_at D vwCl ((finG (sy_al ws) ca D fa b).2.2.1 22, ab_cel (finG (sy_al ws) ca D fa b) (fstM L xs) 11 0) H := fin_row (k := 19) (c := (3, 7, [(20, 0)])) hw hP rfl rfl (fun a e h hv => fin_r (eg := 12) (em := 7) (ea := 0) h (fun j hj => (finG_at ((show ∀ j, j < 7 → ab_pl 12 (ab_ej 7 0 0 j) < 120 by decide +kernel) j hj)).trans (congrArg (fun k => (sy_al ws).getD k 0) ((show ∀ j, j < 7 → sy_pm.getD (ab_pl 12 (ab_ej 7 0 0 j)) 0 = 20 + j by decide +kernel) j hj))) rfl hv)
theorem fin_n23 (hw : sy_w ca sy_w2 ws) (hP : va_P D vwCl ws H) : va_at D vwCl ((finG (sy_al ws) ca D fa b).2.2.1 23, ab_cel (finG (sy_al ws) ca D fa b) (fstM L xs) 11 1) H := fin_row (k := 29) (c := (3, 7, [(30, 0)])) hw hP rfl rfl (fun a e h hv => fin_r (eg := 12) (em := 7) (ea := 0) h (fun j hj => (finG_at ((show ∀ j, j < 7 → ab_pl 12 (ab_ej 7 0 1 j) < 120 by decide +kernel) j hj)).trans (congrArg (fun k => (sy_al ws).getD k 0) ((show ∀ j, j < 7 → sy_pm.getD (ab_pl 12 (ab_ej 7 0 1 j)) 0 = 30 + j by decide +kernel) j hj))) rfl hv)
theorem fin_n24 (hw : sy_w ca sy_w2 ws) (hP : va_P D vwCl ws H) : va_at D vwCl ((finG (sy_al ws) ca D fa b).2.2.1 24, ab_cel (finG (sy_al ws) ca D fa b) (fstM L xs) 12 0) H := fin_row (k := 20) (c := (0, 7, [])) hw hP rfl rfl (fun a e h hv => fin_z h rfl hv)
theorem fin_n25 (hw : sy_w ca sy_w2 ws) (hP : va_P D vwCl ws H) : va_at D vwCl ((finG (sy_al ws) ca D fa b).2.2.1 25, ab_cel (finG (sy_al ws) ca D fa b) (fstM L xs) 12 1) H := fin_row (k := 21) (c := (0, 7, [])) hw hP rfl rfl (fun a e h hv => fin_z h rfl hv)
theorem fin_n26 (hw : sy_w ca sy_w2 ws) (hP : va_P D vwCl ws H) : va_at D vwCl ((finG (sy_al ws) ca D fa b).2.2.1 26, ab_cel (finG (sy_al ws) ca D fa b) (fstM L xs) 12 2) H := fin_row (k := 22) (c := (0, 7, [])) hw hP rfl rfl (fun a e h hv => fin_z h rfl hv)
theorem fin_n27 (hw : sy_w ca sy_w2 ws) (hP : va_P D vwCl ws H) : va_at D vwCl ((finG (sy_al ws) ca D fa b).2.2.1 27, ab_cel (finG (sy_al ws) ca D fa b) (fstM L xs) 12 3) H := fin_row (k := 23) (c := (0, 7, [])) hw hP rfl rfl (fun a e h hv => fin_z h rfl hv)
theorem fin_n28 (hw : sy_w ca sy_w2 ws) (hP : va_P D vwCl ws H) : va_at D vwCl ((finG (sy_al ws) ca D fa b).2.2.1 28, ab_cel (finG (sy_al ws) ca D fa b) (fstM L xs) 12 4) H := fin_row (k := 24) (c := (0, 7, [])) hw hP rfl rfl (fun a e h hv => fin_z h rfl hv)
theorem fin_n29 (hw : sy_w ca sy_w2 ws) (hP : va_P D vwCl ws H) : va_at D vwCl ((finG (sy_al ws) ca D fa b).2.2.1 29, ab_cel (finG (sy_al ws) ca D fa b) (fstM L xs) 12 5) H := fin_row (k := 25) (c := (0, 7, [])) hw hP rfl rfl (fun a e h hv => fin_z h rfl hv)
theorem fin_n30 (hw : sy_w ca sy_w2 ws) (hP : va_P D vwCl ws H) : va_at D vwCl ((finG (sy_al ws) ca D fa b).2.2.1 30, ab_cel (finG (sy_al ws) ca D fa b) (fstM L xs) 12 6) H := fin_row (k := 26) (c := (0, 7, [])) hw hP rfl rfl (fun a e h hv => fin_z h rfl hv)
theorem fin_n31 (hw : sy_w ca sy_w2 ws) (hP : va_P D vwCl ws H) : va_at D vwCl ((finG (sy_al ws) ca D fa b).2.2.1 31, ab_cel (finG (sy_al ws) ca D fa b) (fstM L xs) 12 7) H := fin_row (k := 30) (c := (0, 7, [])) hw hP rfl rfl (fun a e h hv => fin_z h rfl hv)
theorem fin_n32 (hw : sy_w ca sy_w2 ws) (hP : va_P D vwCl ws H) : va_at D vwCl ((finG (sy_al ws) ca D fa b).2.2.1 32, ab_cel (finG (sy_al ws) ca D fa b) (fstM L xs) 12 8) H := fin_row (k := 31) (c := (0, 7, [])) hw hP rfl rfl (fun a e h hv => fin_z h rfl hv)
theorem fin_n33 (hw : sy_w ca sy_w2 ws) (hP : va_P D vwCl ws H) : va_at D vwCl ((finG (sy_al ws) ca D fa b).2.2.1 33, ab_cel (finG (sy_al ws) ca D fa b) (fstM L xs) 12 9) H := fin_row (k := 32) (c := (0, 7, [])) hw hP rfl rfl (fun a e h hv => fin_z h rfl hv)
theorem fin_n34 (hw : sy_w ca sy_w2 ws) (hP : va_P D vwCl ws H) : va_at D vwCl ((finG (sy_al ws) ca D fa b).2.2.1 34, ab_cel (finG (sy_al ws) ca D fa b) (fstM L xs) 12 10) H := fin_row (k := 33) (c := (0, 7, [])) hw hP rfl rfl (fun a e h hv => fin_z h rfl hv)
theorem fin_n35 (hw : sy_w ca sy_w2 ws) (hP : va_P D vwCl ws H) : va_at D vwCl ((finG (sy_al ws) ca D fa b).2.2.1 35, ab_cel (finG (sy_al ws) ca D fa b) (fstM L xs) 12 11) H := fin_row (k := 34) (c := (0, 7, [])) hw hP rfl rfl (fun a e h hv => fin_z h rfl hv)
theorem fin_n36 (hw : sy_w ca sy_w2 ws) (hP : va_P D vwCl ws H) : va_at D vwCl ((finG (sy_al ws) ca D fa b).2.2.1 36, ab_cel (finG (sy_al ws) ca D fa b) (fstM L xs) 12 12) H := fin_row (k := 35) (c := (0, 7, [])) hw hP rfl rfl (fun a e h hv => fin_z h rfl hv)
theorem fin_n37 (hw : sy_w ca sy_w2 ws) (hP : va_P D vwCl ws H) : va_at D vwCl ((finG (sy_al ws) ca D fa b).2.2.1 37, ab_cel (finG (sy_al ws) ca D fa b) (fstM L xs) 12 13) H := fin_row (k := 36) (c := (0, 7, [])) hw hP rfl rfl (fun a e h hv => fin_z h rfl hv)
theorem fin_n38 (hw : sy_w ca sy_w2 ws) (hP : va_P D vwCl ws H) : va_at D vwCl ((finG (sy_al ws) ca D fa b).2.2.1 38, ab_cel (finG (sy_al ws) ca D fa b) (fstM L xs) 13 0) H := fin_row (k := 37) (c := (5, 5, [(3, 27), (0, 0), (3, 38), (0, 0), (0, 0)])) hw hP rfl rfl (fun a e h hv => fin_o h rfl hv)
theorem fin_n39 (hw : sy_w ca sy_w2 ws) (hP : va_P D vwCl ws H) : va_at D vwCl ((finG (sy_al ws) ca D fa b).2.2.1 39, ab_cel (finG (sy_al ws) ca D fa b) (fstM L xs) 14 0) H := fin_row (k := 39) (c := (5, 1, [(0, 0), (0, 0), (0, 0), (0, 0), (3, 40), (3, 41), (3, 42), (3, 43)])) hw hP rfl rfl (fun a e h hv => fin_o h rfl hv)
theorem fin_n40 (hw : sy_w ca sy_w2 ws) (hP : va_P D vwCl ws H) : va_at D vwCl ((finG (sy_al ws) ca D fa b).2.2.1 40, ab_cel (finG (sy_al ws) ca D fa b) (fstM L xs) 14 1) H := fin_row (k := 45) (c := (5, 1, [(0, 0), (0, 0), (0, 0), (0, 0), (3, 46), (3, 47), (3, 48), (3, 49)])) hw hP rfl rfl (fun a e h hv => fin_o h rfl hv)
theorem fin_n41 (hw : sy_w ca sy_w2 ws) (hP : va_P D vwCl ws H) : va_at D vwCl ((finG (sy_al ws) ca D fa b).2.2.1 41, ab_cel (finG (sy_al ws) ca D fa b) (fstM L xs) 14 2) H := fin_row (k := 50) (c := (5, 1, [(0, 0), (0, 0), (0, 0), (0, 0), (3, 51), (3, 52), (3, 53), (3, 54)])) hw hP rfl rfl (fun a e h hv => fin_o h rfl hv)
theorem fin_n42 (hw : sy_w ca sy_w2 ws) (hP : va_P D vwCl ws H) : va_at D vwCl ((finG (sy_al ws) ca D fa b).2.2.1 42, ab_cel (finG (sy_al ws) ca D fa b) (fstM L xs) 14 3) H := fin_row (k := 55) (c := (5, 1, [(0, 0), (0, 0), (0, 0), (0, 0), (3, 56), (3, 57), (3, 58), (3, 59)])) hw hP rfl rfl (fun a e h hv => fin_o h rfl hv)
theorem fin_n43 (hw : sy_w ca sy_w2 ws) (hP : va_P D vwCl ws H) : va_at D vwCl ((finG (sy_al ws) ca D fa b).2.2.1 43, ab_cel (finG (sy_al ws) ca D fa b) (fstM L xs) 14 4) H := fin_row (k := 85) (c := (5, 1, [(0, 0), (0, 0), (0, 0), (0, 0), (3, 86), (3, 87), (3, 88), (3, 89)])) hw hP rfl rfl (fun a e h hv => fin_o h rfl hv)
theorem fin_n44 (hw : sy_w ca sy_w2 ws) (hP : va_P D vwCl ws H) : va_at D vwCl ((finG (sy_al ws) ca D fa b).2.2.1 44, ab_cel (finG (sy_al ws) ca D fa b) (fstM L xs) 15 0) H := fin_row (k := 40) (c := (0, 7, [])) hw hP rfl rfl (fun a e h hv => fin_z h rfl hv)
theorem fin_n45 (hw : sy_w ca sy_w2 ws) (hP : va_P D vwCl ws H) : va_at D vwCl ((finG (sy_al ws) ca D fa b).2.2.1 45, ab_cel (finG (sy_al ws) ca D fa b) (fstM L xs) 15 1) H := fin_row (k := 46) (c := (0, 7, [])) hw hP rfl rfl (fun a e h hv => fin_z h rfl hv)
theorem fin_n46 (hw : sy_w ca sy_w2 ws) (hP : va_P D vwCl ws H) : va_at D vwCl ((finG (sy_al ws) ca D fa b).2.2.1 46, ab_cel (finG (sy_al ws) ca D fa b) (fstM L xs) 15 2) H := fin_row (k := 51) (c := (0, 7, [])) hw hP rfl rfl (fun a e h hv => fin_z h rfl hv)
theorem fin_n47 (hw : sy_w ca sy_w2 ws) (hP : va_P D vwCl ws H) : va_at D vwCl ((finG (sy_al ws) ca D fa b).2.2.1 47, ab_cel (finG (sy_al ws) ca D fa b) (fstM L xs) 15 3) H := fin_row (k := 56) (c := (0, 7, [])) hw hP rfl rfl (fun a e h hv => fin_z h rfl hv)
theorem fin_n48 (hw : sy_w ca sy_w2 ws) (hP : va_P D vwCl ws H) : va_at D vwCl ((finG (sy_al ws) ca D fa b).2.2.1 48, ab_cel (finG (sy_al ws) ca D fa b) (fstM L xs) 15 4) H := fin_row (k := 86) (c := (0, 7, [])) hw hP rfl rfl (fun a e h hv => fin_z h rfl hv)
theorem fin_n49 (hw : sy_w ca sy_w2 ws) (hP : va_P D vwCl ws H) : va_at D vwCl ((finG (sy_al ws) ca D fa b).2.2.1 49, ab_cel (finG (sy_al ws) ca D fa b) (fstM L xs) 16 0) H := fin_row (k := 41) (c := (0, 8, [])) hw hP rfl rfl (fun a e h hv => fin_z h rfl hv)
theorem fin_n50 (hw : sy_w ca sy_w2 ws) (hP : va_P D vwCl ws H) : va_at D vwCl ((finG (sy_al ws) ca D fa b).2.2.1 50, ab_cel (finG (sy_al ws) ca D fa b) (fstM L xs) 16 1) H := fin_row (k := 47) (c := (0, 8, [])) hw hP rfl rfl (fun a e h hv => fin_z h rfl hv)
theorem fin_n51 (hw : sy_w ca sy_w2 ws) (hP : va_P D vwCl ws H) : va_at D vwCl ((finG (sy_al ws) ca D fa b).2.2.1 51, ab_cel (finG (sy_al ws) ca D fa b) (fstM L xs) 16 2) H := fin_row (k := 52) (c := (0, 8, [])) hw hP rfl rfl (fun a e h hv => fin_z h rfl hv)
theorem fin_n52 (hw : sy_w ca sy_w2 ws) (hP : va_P D vwCl ws H) : va_at D vwCl ((finG (sy_al ws) ca D fa b).2.2.1 52, ab_cel (finG (sy_al ws) ca D fa b) (fstM L xs) 16 3) H := fin_row (k := 57) (c := (0, 8, [])) hw hP rfl rfl (fun a e h hv => fin_z h rfl hv)
theorem fin_n53 (hw : sy_w ca sy_w2 ws) (hP : va_P D vwCl ws H) : va_at D vwCl ((finG (sy_al ws) ca D fa b).2.2.1 53, ab_cel (finG (sy_al ws) ca D fa b) (fstM L xs) 16 4) H := fin_row (k := 87) (c := (0, 8, [])) hw hP rfl rfl (fun a e h hv => fin_z h rfl hv)
theorem fin_n54 (hw : sy_w ca sy_w2 ws) (hP : va_P D vwCl ws H) : va_at D vwCl ((finG (sy_al ws) ca D fa b).2.2.1 54, ab_cel (finG (sy_al ws) ca D fa b) (fstM L xs) 17 0) H := fin_row (k := 42) (c := (0, 8, [])) hw hP rfl rfl (fun a e h hv => fin_z h rfl hv)
theorem fin_n55 (hw : sy_w ca sy_w2 ws) (hP : va_P D vwCl ws H) : va_at D vwCl ((finG (sy_al ws) ca D fa b).2.2.1 55, ab_cel (finG (sy_al ws) ca D fa b) (fstM L xs) 17 1) H := fin_row (k := 48) (c := (0, 8, [])) hw hP rfl rfl (fun a e h hv => fin_z h rfl hv)
theorem fin_n56 (hw : sy_w ca sy_w2 ws) (hP : va_P D vwCl ws H) : va_at D vwCl ((finG (sy_al ws) ca D fa b).2.2.1 56, ab_cel (finG (sy_al ws) ca D fa b) (fstM L xs) 17 2) H := fin_row (k := 53) (c := (0, 8, [])) hw hP rfl rfl (fun a e h hv => fin_z h rfl hv)
theorem fin_n57 (hw : sy_w ca sy_w2 ws) (hP : va_P D vwCl ws H) : va_at D vwCl ((finG (sy_al ws) ca D fa b).2.2.1 57, ab_cel (finG (sy_al ws) ca D fa b) (fstM L xs) 17 3) H := fin_row (k := 58) (c := (0, 8, [])) hw hP rfl rfl (fun a e h hv => fin_z h rfl hv)
theorem fin_n58 (hw : sy_w ca sy_w2 ws) (hP : va_P D vwCl ws H) : va_at D vwCl ((finG (sy_al ws) ca D fa b).2.2.1 58, ab_cel (finG (sy_al ws) ca D fa b) (fstM L xs) 17 4) H := fin_row (k := 88) (c := (0, 8, [])) hw hP rfl rfl (fun a e h hv => fin_z h rfl hv)
theorem fin_n59 (hw : sy_w ca sy_w2 ws) (hP : va_P D vwCl ws H) : va_at D vwCl ((finG (sy_al ws) ca D fa b).2.2.1 59, ab_cel (finG (sy_al ws) ca D fa b) (fstM L xs) 18 0) H := fin_row (k := 43) (c := (0, 8, [])) hw hP rfl rfl (fun a e h hv => fin_z h rfl hv)
theorem fin_n60 (hw : sy_w ca sy_w2 ws) (hP : va_P D vwCl ws H) : va_at D vwCl ((finG (sy_al ws) ca D fa b).2.2.1 60, ab_cel (finG (sy_al ws) ca D fa b) (fstM L xs) 18 1) H := fin_row (k := 49) (c := (0, 8, [])) hw hP rfl rfl (fun a e h hv => fin_z h rfl hv)
theorem fin_n61 (hw : sy_w ca sy_w2 ws) (hP : va_P D vwCl ws H) : va_at D vwCl ((finG (sy_al ws) ca D fa b).2.2.1 61, ab_cel (finG (sy_al ws) ca D fa b) (fstM L xs) 18 2) H := fin_row (k := 54) (c := (0, 8, [])) hw hP rfl rfl (fun a e h hv => fin_z h rfl hv)
theorem fin_n62 (hw : sy_w ca sy_w2 ws) (hP : va_P D vwCl ws H) : va_at D vwCl ((finG (sy_al ws) ca D fa b).2.2.1 62, ab_cel (finG (sy_al ws) ca D fa b) (fstM L xs) 18 3) H := fin_row (k := 59) (c := (0, 8, [])) hw hP rfl rfl (fun a e h hv => fin_z h rfl hv)
theorem fin_n63 (hw : sy_w ca sy_w2 ws) (hP : va_P D vwCl ws H) : va_at D vwCl ((finG (sy_al ws) ca D fa b).2.2.1 63, ab_cel (finG (sy_al ws) ca D fa b) (fstM L xs) 18 4) H := fin_row (k := 89) (c := (0, 8, [])) hw hP rfl rfl (fun a e h hv => fin_z h rfl hv)
theorem fin_n64 (hw : sy_w ca sy_w2 ws) (hP : va_P D vwCl ws H) : va_at D vwCl ((finG (sy_al ws) ca D fa b).2.2.1 64, ab_cel (finG (sy_al ws) ca D fa b) (fstM L xs) 19 0) H := fin_row (k := 44) (c := (4, 3, [(2, 55), (1, 50), (0, 45)])) hw hP rfl rfl (fun a e h hv => fin_k (f := fun j => (finG (sy_al ws) ca D fa b).2.2.1 (ab_pl 14 (ab_ej 0 1 0 j))) h rfl rfl rfl rfl hv)
theorem fin_n65 (hw : sy_w ca sy_w2 ws) (hP : va_P D vwCl ws H) : va_at D vwCl ((finG (sy_al ws) ca D fa b).2.2.1 65, ab_cel (finG (sy_al ws) ca D fa b) (fstM L xs) 20 0) H := fin_row (k := 60) (c := (1, 3, [])) hw hP rfl rfl (fun a e h hv => fin_b h rfl hv)
theorem fin_n66 (hw : sy_w ca sy_w2 ws) (hP : va_P D vwCl ws H) : va_at D vwCl ((finG (sy_al ws) ca D fa b).2.2.1 66, ab_cel (finG (sy_al ws) ca D fa b) (fstM L xs) 21 0) H := fin_row (k := 61) (c := (5, 0, [(0, 0), (0, 0), (3, 62), (3, 63), (3, 64), (3, 65), (3, 66), (3, 67), (3, 68), (3, 69), (3, 70), (3, 71), (3, 76), (3, 81), (3, 82), (3, 83), (3, 84)])) hw hP rfl rfl (fun a e h hv => fin_o h rfl hv)
theorem fin_n67 (hw : sy_w ca sy_w2 ws) (hP : va_P D vwCl ws H) : va_at D vwCl ((finG (sy_al ws) ca D fa b).2.2.1 67, ab_cel (finG (sy_al ws) ca D fa b) (fstM L xs) 22 0) H := fin_row (k := 62) (c := (0, 4, [])) hw hP rfl rfl (fun a e h hv => fin_z h rfl hv)
theorem fin_n68 (hw : sy_w ca sy_w2 ws) (hP : va_P D vwCl ws H) : va_at D vwCl ((finG (sy_al ws) ca D fa b).2.2.1 68, ab_cel (finG (sy_al ws) ca D fa b) (fstM L xs) 23 0) H := fin_row (k := 63) (c := (1, 4, [])) hw hP rfl rfl (fun a e h hv => fin_b h rfl hv)
theorem fin_n69 (hw : sy_w ca sy_w2 ws) (hP : va_P D vwCl ws H) : va_at D vwCl ((finG (sy_al ws) ca D fa b).2.2.1 69, ab_cel (finG (sy_al ws) ca D fa b) (fstM L xs) 24 0) H := fin_row (k := 64) (c := (0, 7, [])) hw hP rfl rfl (fun a e h hv => fin_z h rfl hv)
theorem fin_n70 (hw : sy_w ca sy_w2 ws) (hP : va_P D vwCl ws H) : va_at D vwCl ((finG (sy_al ws) ca D fa b).2.2.1 70, ab_cel (finG (sy_al ws) ca D fa b) (fstM L xs) 25 0) H := fin_row (k := 65) (c := (1, 7, [])) hw hP rfl rfl (fun a e h hv => fin_b h rfl hv)
theorem fin_n71 (hw : sy_w ca sy_w2 ws) (hP : va_P D vwCl ws H) : va_at D vwCl ((finG (sy_al ws) ca D fa b).2.2.1 71, ab_cel (finG (sy_al ws) ca D fa b) (fstM L xs) 26 0) H := fin_row (k := 66) (c := (0, 7, [])) hw hP rfl rfl (fun a e h hv => fin_z h rfl hv)
theorem fin_n72 (hw : sy_w ca sy_w2 ws) (hP : va_P D vwCl ws H) : va_at D vwCl ((finG (sy_al ws) ca D fa b).2.2.1 72, ab_cel (finG (sy_al ws) ca D fa b) (fstM L xs) 27 0) H := fin_row (k := 67) (c := (0, 7, [])) hw hP rfl rfl (fun a e h hv => fin_z h rfl hv)
theorem fin_n73 (hw : sy_w ca sy_w2 ws) (hP : va_P D vwCl ws H) : va_at D vwCl ((finG (sy_al ws) ca D fa b).2.2.1 73, ab_cel (finG (sy_al ws) ca D fa b) (fstM L xs) 28 0) H := fin_row (k := 68) (c := (0, 7, [])) hw hP rfl rfl (fun a e h hv => fin_z h rfl hv)
theorem fin_n74 (hw : sy_w ca sy_w2 ws) (hP : va_P D vwCl ws H) : va_at D vwCl ((finG (sy_al ws) ca D fa b).2.2.1 74, ab_cel (finG (sy_al ws) ca D fa b) (fstM L xs) 29 0) H := fin_row (k := 69) (c := (0, 7, [])) hw hP rfl rfl (fun a e h hv => fin_z h rfl hv)
theorem fin_n75 (hw : sy_w ca sy_w2 ws) (hP : va_P D vwCl ws H) : va_at D vwCl ((finG (sy_al ws) ca D fa b).2.2.1 75, ab_cel (finG (sy_al ws) ca D fa b) (fstM L xs) 30 0) H := fin_row (k := 70) (c := (0, 7, [])) hw hP rfl rfl (fun a e h hv => fin_z h rfl hv)
theorem fin_n76 (hw : sy_w ca sy_w2 ws) (hP : va_P D vwCl ws H) : va_at D vwCl ((finG (sy_al ws) ca D fa b).2.2.1 76, ab_cel (finG (sy_al ws) ca D fa b) (fstM L xs) 31 0) H := fin_row (k := 71) (c := (3, 4, [(72, 0)])) hw hP rfl rfl (fun a e h hv => fin_r (eg := 32) (em := 0) (ea := 0) h (fun j hj => (finG_at ((show ∀ j, j < 4 → ab_pl 32 (ab_ej 0 0 0 j) < 120 by decide +kernel) j hj)).trans (congrArg (fun k => (sy_al ws).getD k 0) ((show ∀ j, j < 4 → sy_pm.getD (ab_pl 32 (ab_ej 0 0 0 j)) 0 = 72 + j by decide +kernel) j hj))) rfl hv)
theorem fin_n77 (hw : sy_w ca sy_w2 ws) (hP : va_P D vwCl ws H) : va_at D vwCl ((finG (sy_al ws) ca D fa b).2.2.1 77, ab_cel (finG (sy_al ws) ca D fa b) (fstM L xs) 32 0) H := fin_row (k := 72) (c := (0, 7, [])) hw hP rfl rfl (fun a e h hv => fin_z h rfl hv)
theorem fin_n78 (hw : sy_w ca sy_w2 ws) (hP : va_P D vwCl ws H) : va_at D vwCl ((finG (sy_al ws) ca D fa b).2.2.1 78, ab_cel (finG (sy_al ws) ca D fa b) (fstM L xs) 32 1) H := fin_row (k := 73) (c := (0, 7, [])) hw hP rfl rfl (fun a e h hv => fin_z h rfl hv)
theorem fin_n79 (hw : sy_w ca sy_w2 ws) (hP : va_P D vwCl ws H) : va_at D vwCl ((finG (sy_al ws) ca D fa b).2.2.1 79, ab_cel (finG (sy_al ws) ca D fa b) (fstM L xs) 32 2) H := fin_row (k := 74) (c := (0, 7, [])) hw hP rfl rfl (fun a e h hv => fin_z h rfl hv)
theorem fin_n80 (hw : sy_w ca sy_w2 ws) (hP : va_P D vwCl ws H) : va_at D vwCl ((finG (sy_al ws) ca D fa b).2.2.1 80, ab_cel (finG (sy_al ws) ca D fa b) (fstM L xs) 32 3) H := fin_row (k := 75) (c := (0, 7, [])) hw hP rfl rfl (fun a e h hv => fin_z h rfl hv)
theorem fin_n81 (hw : sy_w ca sy_w2 ws) (hP : va_P D vwCl ws H) : va_at D vwCl ((finG (sy_al ws) ca D fa b).2.2.1 81, ab_cel (finG (sy_al ws) ca D fa b) (fstM L xs) 33 0) H := fin_row (k := 76) (c := (3, 4, [(77, 0)])) hw hP rfl rfl (fun a e h hv => fin_r (eg := 34) (em := 0) (ea := 0) h (fun j hj => (finG_at ((show ∀ j, j < 4 → ab_pl 34 (ab_ej 0 0 0 j) < 120 by decide +kernel) j hj)).trans (congrArg (fun k => (sy_al ws).getD k 0) ((show ∀ j, j < 4 → sy_pm.getD (ab_pl 34 (ab_ej 0 0 0 j)) 0 = 77 + j by decide +kernel) j hj))) rfl hv)
theorem fin_n82 (hw : sy_w ca sy_w2 ws) (hP : va_P D vwCl ws H) : va_at D vwCl ((finG (sy_al ws) ca D fa b).2.2.1 82, ab_cel (finG (sy_al ws) ca D fa b) (fstM L xs) 34 0) H := fin_row (k := 77) (c := (0, 7, [])) hw hP rfl rfl (fun a e h hv => fin_z h rfl hv)
theorem fin_n83 (hw : sy_w ca sy_w2 ws) (hP : va_P D vwCl ws H) : va_at D vwCl ((finG (sy_al ws) ca D fa b).2.2.1 83, ab_cel (finG (sy_al ws) ca D fa b) (fstM L xs) 34 1) H := fin_row (k := 78) (c := (0, 7, [])) hw hP rfl rfl (fun a e h hv => fin_z h rfl hv)
theorem fin_n84 (hw : sy_w ca sy_w2 ws) (hP : va_P D vwCl ws H) : va_at D vwCl ((finG (sy_al ws) ca D fa b).2.2.1 84, ab_cel (finG (sy_al ws) ca D fa b) (fstM L xs) 34 2) H := fin_row (k := 79) (c := (0, 7, [])) hw hP rfl rfl (fun a e h hv => fin_z h rfl hv)
theorem fin_n85 (hw : sy_w ca sy_w2 ws) (hP : va_P D vwCl ws H) : va_at D vwCl ((finG (sy_al ws) ca D fa b).2.2.1 85, ab_cel (finG (sy_al ws) ca D fa b) (fstM L xs) 34 3) H := fin_row (k := 80) (c := (0, 7, [])) hw hP rfl rfl (fun a e h hv => fin_z h rfl hv)
theorem fin_n86 (hw : sy_w ca sy_w2 ws) (hP : va_P D vwCl ws H) : va_at D vwCl ((finG (sy_al ws) ca D fa b).2.2.1 86, ab_cel (finG (sy_al ws) ca D fa b) (fstM L xs) 35 0) H := fin_row (k := 81) (c := (0, 4, [])) hw hP rfl rfl (fun a e h hv => fin_z h rfl hv)
theorem fin_n87 (hw : sy_w ca sy_w2 ws) (hP : va_P D vwCl ws H) : va_at D vwCl ((finG (sy_al ws) ca D fa b).2.2.1 87, ab_cel (finG (sy_al ws) ca D fa b) (fstM L xs) 36 0) H := fin_row (k := 82) (c := (0, 4, [])) hw hP rfl rfl (fun a e h hv => fin_z h rfl hv)
theorem fin_n88 (hw : sy_w ca sy_w2 ws) (hP : va_P D vwCl ws H) : va_at D vwCl ((finG (sy_al ws) ca D fa b).2.2.1 88, ab_cel (finG (sy_al ws) ca D fa b) (fstM L xs) 37 0) H := fin_row (k := 83) (c := (0, 4, [])) hw hP rfl rfl (fun a e h hv => fin_z h rfl hv)
theorem fin_n89 (hw : sy_w ca sy_w2 ws) (hP : va_P D vwCl ws H) : va_at D vwCl ((finG (sy_al ws) ca D fa b).2.2.1 89, ab_cel (finG (sy_al ws) ca D fa b) (fstM L xs) 38 0) H := fin_row (k := 84) (c := (0, 4, [])) hw hP rfl rfl (fun a e h hv => fin_z h rfl hv)
theorem fin_n90 (hw : sy_w ca sy_w2 ws) (hP : va_P D vwCl ws H) : va_at D vwCl ((finG (sy_al ws) ca D fa b).2.2.1 90, ab_cel (finG (sy_al ws) ca D fa b) (fstM L xs) 39 0) H := fin_row (k := 90) (c := (5, 4, [(3, 17), (3, 39), (3, 85), (3, 61), (3, 91), (0, 0), (3, 92), (3, 93), (0, 0)])) hw hP rfl rfl (fun a e h hv => fin_o h rfl hv)
theorem fin_n91 (hw : sy_w ca sy_w2 ws) (hP : va_P D vwCl ws H) : va_at D vwCl ((finG (sy_al ws) ca D fa b).2.2.1 91, ab_cel (finG (sy_al ws) ca D fa b) (fstM L xs) 40 0) H := fin_row (k := 91) (c := (0, 24, [])) hw hP rfl rfl (fun a e h hv => fin_z h rfl hv)
theorem fin_n92 (hw : sy_w ca sy_w2 ws) (hP : va_P D vwCl ws H) : va_at D vwCl ((finG (sy_al ws) ca D fa b).2.2.1 92, ab_cel (finG (sy_al ws) ca D fa b) (fstM L xs) 41 0) H := fin_row (k := 92) (c := (0, 3, [])) hw hP rfl rfl (fun a e h hv => fin_z h rfl hv)
theorem fin_n93 (hw : sy_w ca sy_w2 ws) (hP : va_P D vwCl ws H) : va_at D vwCl ((finG (sy_al ws) ca D fa b).2.2.1 93, ab_cel (finG (sy_al ws) ca D fa b) (fstM L xs) 42 0) H := fin_row (k := 93) (c := (0, 9, [])) hw hP rfl rfl (fun a e h hv => fin_z h rfl hv)
theorem fin_n94 (hw : sy_w ca sy_w2 ws) (hP : va_P D vwCl ws H) : va_at D vwCl ((finG (sy_al ws) ca D fa b).2.2.1 94, ab_cel (finG (sy_al ws) ca D fa b) (fstM L xs) 43 0) H := fin_row (k := 94) (c := (5, 7, [(3, 17), (3, 85), (3, 61), (3, 95), (3, 96), (0, 0), (0, 0)])) hw hP rfl rfl (fun a e h hv => fin_o h rfl hv)
theorem fin_n95 (hw : sy_w ca sy_w2 ws) (hP : va_P D vwCl ws H) : va_at D vwCl ((finG (sy_al ws) ca D fa b).2.2.1 95, ab_cel (finG (sy_al ws) ca D fa b) (fstM L xs) 44 0) H := fin_row (k := 95) (c := (0, 7, [])) hw hP rfl rfl (fun a e h hv => fin_z h rfl hv)
theorem fin_n96 (hw : sy_w ca sy_w2 ws) (hP : va_P D vwCl ws H) : va_at D vwCl ((finG (sy_al ws) ca D fa b).2.2.1 96, ab_cel (finG (sy_al ws) ca D fa b) (fstM L xs) 45 0) H := fin_row (k := 96) (c := (0, 7, [])) hw hP rfl rfl (fun a e h hv => fin_z h rfl hv)
theorem fin_n97 (hw : sy_w ca sy_w2 ws) (hP : va_P D vwCl ws H) : va_at D vwCl ((finG (sy_al ws) ca D fa b).2.2.1 97, ab_cel (finG (sy_al ws) ca D fa b) (fstM L xs) 46 0) H := fin_row (k := 97) (c := (5, 3, [(3, 17), (3, 39), (3, 98), (2, 0), (2, 0), (2, 0), (0, 0), (0, 0)])) hw hP rfl rfl (fun a e h hv => fin_o h rfl hv)
theorem fin_n98 (hw : sy_w ca sy_w2 ws) (hP : va_P D vwCl ws H) : va_at D vwCl ((finG (sy_al ws) ca D fa b).2.2.1 98, ab_cel (finG (sy_al ws) ca D fa b) (fstM L xs) 47 0) H := fin_row (k := 98) (c := (0, 7, [])) hw hP rfl rfl (fun a e h hv => fin_z h rfl hv)
theorem fin_n99 (hw : sy_w ca sy_w2 ws) (hP : va_P D vwCl ws H) : va_at D vwCl ((finG (sy_al ws) ca D fa b).2.2.1 99, ab_cel (finG (sy_al ws) ca D fa b) (fstM L xs) 48 0) H := fin_row (k := 99) (c := (0, 6, [])) hw hP rfl rfl (fun a e h hv => fin_z h rfl hv)
theorem fin_n100 (hw : sy_w ca sy_w2 ws) (hP : va_P D vwCl ws H) : va_at D vwCl ((finG (sy_al ws) ca D fa b).2.2.1 100, ab_cel (finG (sy_al ws) ca D fa b) (fstM L xs) 49 0) H := fin_row (k := 100) (c := (5, 9, [(3, 101), (3, 102), (3, 103), (3, 104), (3, 105), (3, 106), (3, 107), (0, 0), (2, 0), (2, 1), (0, 0), (3, 108), (3, 109), (0, 0), (3, 110), (3, 111), (3, 112), (3, 113), (0, 0), (3, 114), (0, 0), (0, 0), (0, 0), (3, 115), (0, 0), (3, 116), (3, 117), (3, 118), (3, 119)])) hw hP rfl rfl (fun a e h hv => fin_o h rfl hv)
theorem fin_n101 (hw : sy_w ca sy_w2 ws) (hP : va_P D vwCl ws H) : va_at D vwCl ((finG (sy_al ws) ca D fa b).2.2.1 101, ab_cel (finG (sy_al ws) ca D fa b) (fstM L xs) 50 0) H := fin_row (k := 101) (c := (0, 6, [(5, 0), (4, 0), (3, 0), (2, 0), (1, 0), (0, 0)])) hw hP rfl rfl (fun a e h hv => fin_m h (by decide +kernel) rfl hv)
theorem fin_n102 (hw : sy_w ca sy_w2 ws) (hP : va_P D vwCl ws H) : va_at D vwCl ((finG (sy_al ws) ca D fa b).2.2.1 102, ab_cel (finG (sy_al ws) ca D fa b) (fstM L xs) 51 0) H := fin_row (k := 102) (c := (0, 240, [])) hw hP rfl rfl (fun a e h hv => fin_z h rfl hv)
theorem fin_n103 (hw : sy_w ca sy_w2 ws) (hP : va_P D vwCl ws H) : va_at D vwCl ((finG (sy_al ws) ca D fa b).2.2.1 103, ab_cel (finG (sy_al ws) ca D fa b) (fstM L xs) 52 0) H := fin_row (k := 103) (c := (0, 4, [(3, 0), (2, 0), (1, 0), (0, 0)])) hw hP rfl rfl (fun a e h hv => fin_m h (by decide +kernel) rfl hv)
theorem fin_n104 (hw : sy_w ca sy_w2 ws) (hP : va_P D vwCl ws H) : va_at D vwCl ((finG (sy_al ws) ca D fa b).2.2.1 104, ab_cel (finG (sy_al ws) ca D fa b) (fstM L xs) 53 0) H := fin_row (k := 104) (c := (0, 320, [])) hw hP rfl rfl (fun a e h hv => fin_z h rfl hv)
theorem fin_n105 (hw : sy_w ca sy_w2 ws) (hP : va_P D vwCl ws H) : va_at D vwCl ((finG (sy_al ws) ca D fa b).2.2.1 105, ab_cel (finG (sy_al ws) ca D fa b) (fstM L xs) 54 0) H := fin_row (k := 105) (c := (0, 78, [])) hw hP rfl rfl (fun a e h hv => fin_z h rfl hv)
theorem fin_n106 (hw : sy_w ca sy_w2 ws) (hP : va_P D vwCl ws H) : va_at D vwCl ((finG (sy_al ws) ca D fa b).2.2.1 106, ab_cel (finG (sy_al ws) ca D fa b) (fstM L xs) 55 0) H := fin_row (k := 106) (c := (0, 234, [])) hw hP rfl rfl (fun a e h hv => fin_z h rfl hv)
theorem fin_n107 (hw : sy_w ca sy_w2 ws) (hP : va_P D vwCl ws H) : va_at D vwCl ((finG (sy_al ws) ca D fa b).2.2.1 107, ab_cel (finG (sy_al ws) ca D fa b) (fstM L xs) 56 0) H := fin_row (k := 107) (c := (1, 3, [])) hw hP rfl rfl (fun a e h hv => fin_b h rfl hv)
theorem fin_n108 (hw : sy_w ca sy_w2 ws) (hP : va_P D vwCl ws H) : va_at D vwCl ((finG (sy_al ws) ca D fa b).2.2.1 108, ab_cel (finG (sy_al ws) ca D fa b) (fstM L xs) 57 0) H := fin_row (k := 108) (c := (0, 6, [])) hw hP rfl rfl (fun a e h hv => fin_z h rfl hv)
theorem fin_n109 (hw : sy_w ca sy_w2 ws) (hP : va_P D vwCl ws H) : va_at D vwCl ((finG (sy_al ws) ca D fa b).2.2.1 109, ab_cel (finG (sy_al ws) ca D fa b) (fstM L xs) 58 0) H := fin_row (k := 109) (c := (0, 78, [])) hw hP rfl rfl (fun a e h hv => fin_z h rfl hv)
theorem fin_n110 (hw : sy_w ca sy_w2 ws) (hP : va_P D vwCl ws H) : va_at D vwCl ((finG (sy_al ws) ca D fa b).2.2.1 110, ab_cel (finG (sy_al ws) ca D fa b) (fstM L xs) 59 0) H := fin_row (k := 110) (c := (0, 28, [])) hw hP rfl rfl (fun a e h hv => fin_z h rfl hv)
theorem fin_n111 (hw : sy_w ca sy_w2 ws) (hP : va_P D vwCl ws H) : va_at D vwCl ((finG (sy_al ws) ca D fa b).2.2.1 111, ab_cel (finG (sy_al ws) ca D fa b) (fstM L xs) 60 0) H := fin_row (k := 111) (c := (0, 28, [])) hw hP rfl rfl (fun a e h hv => fin_z h rfl hv)
theorem fin_n112 (hw : sy_w ca sy_w2 ws) (hP : va_P D vwCl ws H) : va_at D vwCl ((finG (sy_al ws) ca D fa b).2.2.1 112, ab_cel (finG (sy_al ws) ca D fa b) (fstM L xs) 61 0) H := fin_row (k := 112) (c := (1, 28, [])) hw hP rfl rfl (fun a e h hv => fin_b h rfl hv)
theorem fin_n113 (hw : sy_w ca sy_w2 ws) (hP : va_P D vwCl ws H) : va_at D vwCl ((finG (sy_al ws) ca D fa b).2.2.1 113, ab_cel (finG (sy_al ws) ca D fa b) (fstM L xs) 62 0) H := fin_row (k := 113) (c := (0, 49, [])) hw hP rfl rfl (fun a e h hv => fin_z h rfl hv)
theorem fin_n114 (hw : sy_w ca sy_w2 ws) (hP : va_P D vwCl ws H) : va_at D vwCl ((finG (sy_al ws) ca D fa b).2.2.1 114, ab_cel (finG (sy_al ws) ca D fa b) (fstM L xs) 63 0) H := fin_row (k := 114) (c := (0, 8, [])) hw hP rfl rfl (fun a e h hv => fin_z h rfl hv)
theorem fin_n115 (hw : sy_w ca sy_w2 ws) (hP : va_P D vwCl ws H) : va_at D vwCl ((finG (sy_al ws) ca D fa b).2.2.1 115, ab_cel (finG (sy_al ws) ca D fa b) (fstM L xs) 64 0) H := fin_row (k := 115) (c := (0, 8, [])) hw hP rfl rfl (fun a e h hv => fin_z h rfl hv)
theorem fin_n116 (hw : sy_w ca sy_w2 ws) (hP : va_P D vwCl ws H) : va_at D vwCl ((finG (sy_al ws) ca D fa b).2.2.1 116, ab_cel (finG (sy_al ws) ca D fa b) (fstM L xs) 65 0) H := fin_row (k := 116) (c := (0, 78, [])) hw hP rfl rfl (fun a e h hv => fin_z h rfl hv)
theorem fin_n117 (hw : sy_w ca sy_w2 ws) (hP : va_P D vwCl ws H) : va_at D vwCl ((finG (sy_al ws) ca D fa b).2.2.1 117, ab_cel (finG (sy_al ws) ca D fa b) (fstM L xs) 66 0) H := fin_row (k := 117) (c := (0, 9, [])) hw hP rfl rfl (fun a e h hv => fin_z h rfl hv)
theorem fin_n118 (hw : sy_w ca sy_w2 ws) (hP : va_P D vwCl ws H) : va_at D vwCl ((finG (sy_al ws) ca D fa b).2.2.1 118, ab_cel (finG (sy_al ws) ca D fa b) (fstM L xs) 67 0) H := fin_row (k := 118) (c := (2, 128, [])) hw hP rfl rfl (fun a e h hv => fin_l h rfl hv)
theorem fin_n119 (hw : sy_w ca sy_w2 ws) (hP : va_P D vwCl ws H) : va_at D vwCl ((finG (sy_al ws) ca D fa b).2.2.1 119, ab_cel (finG (sy_al ws) ca D fa b) (fstM L xs) 67 1) H := fin_row (k := 119) (c := (2, 128, [])) hw hP rfl rfl (fun a e h hv => fin_l h rfl hv)
theorem fin_at (hw : sy_w ca sy_w2 ws) (hP : va_P D vwCl ws H) : ∀ n, n < 120 → va_at D vwCl ((finG (sy_al ws) ca D fa b).2.2.1 n, ab_cel (finG (sy_al ws) ca D fa b) (fstM L xs) (ab_pg n) (ab_pi n)) H
  | 0, _ => fin_n0 hw hP
  | 1, _ => fin_n1 hw hP
  | 2, _ => fin_n2 hw hP
  | 3, _ => fin_n3 hw hP
  | 4, _ => fin_n4 hw hP
  | 5, _ => fin_n5 hw hP
  | 6, _ => fin_n6 hw hP
  | 7, _ => fin_n7 hw hP
  | 8, _ => fin_n8 hw hP
  | 9, _ => fin_n9 hw hP
  | 10, _ => fin_n10 hw hP
  | 11, _ => fin_n11 hw hP
  | 12, _ => fin_n12 hw hP
  | 13, _ => fin_n13 hw hP
  | 14, _ => fin_n14 hw hP
  | 15, _ => fin_n15 hw hP
  | 16, _ => fin_n16 hw hP
  | 17, _ => fin_n17 hw hP
  | 18, _ => fin_n18 hw hP
  | 19, _ => fin_n19 hw hP
  | 20, _ => fin_n20 hw hP
  | 21, _ => fin_n21 hw hP
  | 22, _ => fin_n22 hw hP
  | 23, _ => fin_n23 hw hP
  | 24, _ => fin_n24 hw hP
  | 25, _ => fin_n25 hw hP
  | 26, _ => fin_n26 hw hP
  | 27, _ => fin_n27 hw hP
  | 28, _ => fin_n28 hw hP
  | 29, _ => fin_n29 hw hP
  | 30, _ => fin_n30 hw hP
  | 31, _ => fin_n31 hw hP
  | 32, _ => fin_n32 hw hP
  | 33, _ => fin_n33 hw hP
  | 34, _ => fin_n34 hw hP
  | 35, _ => fin_n35 hw hP
  | 36, _ => fin_n36 hw hP
  | 37, _ => fin_n37 hw hP
  | 38, _ => fin_n38 hw hP
  | 39, _ => fin_n39 hw hP
  | 40, _ => fin_n40 hw hP
  | 41, _ => fin_n41 hw hP
  | 42, _ => fin_n42 hw hP
  | 43, _ => fin_n43 hw hP
  | 44, _ => fin_n44 hw hP
  | 45, _ => fin_n45 hw hP
  | 46, _ => fin_n46 hw hP
  | 47, _ => fin_n47 hw hP
  | 48, _ => fin_n48 hw hP
  | 49, _ => fin_n49 hw hP
  | 50, _ => fin_n50 hw hP
  | 51, _ => fin_n51 hw hP
  | 52, _ => fin_n52 hw hP
  | 53, _ => fin_n53 hw hP
  | 54, _ => fin_n54 hw hP
  | 55, _ => fin_n55 hw hP
  | 56, _ => fin_n56 hw hP
  | 57, _ => fin_n57 hw hP
  | 58, _ => fin_n58 hw hP
  | 59, _ => fin_n59 hw hP
  | 60, _ => fin_n60 hw hP
  | 61, _ => fin_n61 hw hP
  | 62, _ => fin_n62 hw hP
  | 63, _ => fin_n63 hw hP
  | 64, _ => fin_n64 hw hP
  | 65, _ => fin_n65 hw hP
  | 66, _ => fin_n66 hw hP
  | 67, _ => fin_n67 hw hP
  | 68, _ => fin_n68 hw hP
  | 69, _ => fin_n69 hw hP
  | 70, _ => fin_n70 hw hP
  | 71, _ => fin_n71 hw hP
  | 72, _ => fin_n72 hw hP
  | 73, _ => fin_n73 hw hP
  | 74, _ => fin_n74 hw hP
  | 75, _ => fin_n75 hw hP
  | 76, _ => fin_n76 hw hP
  | 77, _ => fin_n77 hw hP
  | 78, _ => fin_n78 hw hP
  | 79, _ => fin_n79 hw hP
  | 80, _ => fin_n80 hw hP
  | 81, _ => fin_n81 hw hP
  | 82, _ => fin_n82 hw hP
  | 83, _ => fin_n83 hw hP
  | 84, _ => fin_n84 hw hP
  | 85, _ => fin_n85 hw hP
  | 86, _ => fin_n86 hw hP
  | 87, _ => fin_n87 hw hP
  | 88, _ => fin_n88 hw hP
  | 89, _ => fin_n89 hw hP
  | 90, _ => fin_n90 hw hP
  | 91, _ => fin_n91 hw hP
  | 92, _ => fin_n92 hw hP
  | 93, _ => fin_n93 hw hP
  | 94, _ => fin_n94 hw hP
  | 95, _ => fin_n95 hw hP
  | 96, _ => fin_n96 hw hP
  | 97, _ => fin_n97 hw hP
  | 98, _ => fin_n98 hw hP
  | 99, _ => fin_n99 hw hP
  | 100, _ => fin_n100 hw hP
  | 101, _ => fin_n101 hw hP
  | 102, _ => fin_n102 hw hP
  | 103, _ => fin_n103 hw hP
  | 104, _ => fin_n104 hw hP
  | 105, _ => fin_n105 hw hP
  | 106, _ => fin_n106 hw hP
  | 107, _ => fin_n107 hw hP
  | 108, _ => fin_n108 hw hP
  | 109, _ => fin_n109 hw hP
  | 110, _ => fin_n110 hw hP
  | 111, _ => fin_n111 hw hP
  | 112, _ => fin_n112 hw hP
  | 113, _ => fin_n113 hw hP
  | 114, _ => fin_n114 hw hP
  | 115, _ => fin_n115 hw hP
  | 116, _ => fin_n116 hw hP
  | 117, _ => fin_n117 hw hP
  | 118, _ => fin_n118 hw hP
  | 119, _ => fin_n119 hw hP
  | n + 120, h => absurd h (by omega)
end FIR
