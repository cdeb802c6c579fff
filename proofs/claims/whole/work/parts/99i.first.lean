/-! ===== the first memory ===== -/
/-- behind the two constructors: all is nought but the sizes, the lower number, the factorials, the script -/
def fstM (L : Nat) (S : Nat → Int32) : ab_M :=
  (fun g i k => if g = 4 ∨ g = 8 ∨ g = 50 ∨ g = 52 then -1 else if g = 70 then nI (fac k) else if g = 71 then S k else nI 0,
   fun g i k => if (g = 0 ∧ i = 0 ∧ k = 16) ∨ (g = 49 ∧ i = 0 ∧ k = 9) then lN 1 else lN 0,
   fun g i k => if g = 13 ∧ i = 0 ∧ k = 2 then 4 else if g = 49 ∧ i = 0 ∧ k = 28 then 1 else if g = 71 ∧ i = 0 ∧ k = 0 then L else 0)
theorem Rel_0 (L : Nat) (S : Nat → Int32) : Rel (fstM L S) := by
  have hz : pwf (fun _ => 0) := ⟨⟨by show 0 ≤ 7; omega, by show 0 ≤ 4; omega, by show 0 ≤ 12; omega, fun i hi => by show 0 ≤ 5; omega, fun k hk => absurd hk (by show ¬ k < 0; omega)⟩, by show 0 ≤ 9; omega, rfl, rfl, rfl⟩
  refine ⟨fun r _ => ⟨rfl, Or.inl rfl⟩, fun r _ => ⟨rfl, Or.inl rfl⟩, ⟨rfl, rfl, rfl, rfl, fun _ _ _ => rfl⟩, ⟨rfl, rfl, rfl, rfl, rfl, rfl, Or.inl ⟨rfl, rfl⟩⟩, fun _ => 0, pwf_wf hz, Or.inl rfl, fun _ _ _ => rfl, ⟨rfl, rfl, rfl, fun _ _ => rfl, fun _ _ _ _ => rfl⟩, ⟨rfl, rfl, rfl, rfl, fun _ _ => rfl, fun _ _ => ⟨rfl, rfl, rfl⟩⟩, fun _ _ => rfl, fun _ _ => ⟨rfl, Or.inl rfl⟩⟩
theorem fstX {L : Nat} (hL : L ≤ 384) (S : Nat → Int32) : ab_X (fstM L S) := ⟨by show 4 < 5; omega, by show 0 < 2; omega, by show 1 < 2; omega, by show L < 2 ^ 31; omega⟩
theorem lb_first {L : Nat} {S : Nat → Int32} (hL : L ≤ 384) : lb_At miL_law 18 [some (vr 71 0), some (vr 0 0), some (vr 49 0), some (vi (nI 0))] [] (fstM L S) := lb_loop 400 0 (fstM L S) rfl (Rel_0 L S) hL
