-- a few more rows, for the blocks by program
section RowsF
variable {G : GT} {Y : MD} {Z : ZT} {c0 s0 n pc : Nat} {μ : Mem} {L : List (Nat × AV)} {st : List AV}
theorem a_top {x y : Int} (e : x = y) (w : Wa G Y Z c0 s0 n μ pc L (.inl y :: st)) : Wa G Y Z c0 s0 n μ pc L (.inl x :: st) := by
  subst e
  exact w
theorem a_alds22 {a i : Int} (hd : decode Y.2.1 pc = .ok (.aaload, 1)) (hg : gx G = FX) (hs : St a 22 8) (i0 : 0 ≤ i) (i1 : i < 8) (w : Wa G Y Z c0 s0 n μ (pc + 1) L (.inr (a + 1 + 3 * i) :: st)) : Wa G Y Z c0 s0 n μ pc L (.inl i :: .inr a :: st) :=
  a_fx (fun f => a_aaload (N := 8) (kd := 22) (t0 := 2) hd (by decide) rfl (St_ho hg hs) i0 i1 (by rw [hg] at f; rw [fx_22 f hs i0 i1]; exact w))
theorem a_alds24 {a i : Int} (hd : decode Y.2.1 pc = .ok (.aaload, 1)) (hg : gx G = FX) (hs : St a 24 8) (i0 : 0 ≤ i) (i1 : i < 8) (w : Wa G Y Z c0 s0 n μ (pc + 1) L (.inr (a + 1 + 29 * i) :: st)) : Wa G Y Z c0 s0 n μ pc L (.inl i :: .inr a :: st) :=
  a_fx (fun f => a_aaload (N := 8) (kd := 24) (t0 := 4) hd (by decide) rfl (St_ho hg hs) i0 i1 (by rw [hg] at f; rw [fx_24 f hs i0 i1]; exact w))
end RowsF
theorem fits_ex (d : Nat) : fitsB (Y_X6_explore (d + 1)) (Y_X6_explore d) = true := by
  unfold fitsB
  rw [Bool.and_eq_true]
  refine ⟨Nat.ble_eq.mpr ?_, Nat.ble_eq.mpr ?_⟩
  · show 4 + d + 1 ≤ 4 + (d + 1)
    omega
  · show 8 + (10 + 11) + (200 + 60 * d) ≤ 200 + 60 * (d + 1)
    omega
/-- the callees of explore that need little -/
theorem fits_exc {d : Nat} {Yc : MD} (h : Nat.ble (Yc.2.2.2.2.1 + 1) 4 = true) (h2 : Nat.ble (8 + (Yc.2.2.1 + 11) + Yc.2.2.2.2.2.1) 200 = true) : fitsB (Y_X6_explore (d + 1)) Yc = true := by
  have h := Nat.le_of_ble_eq_true h
  have h2 := Nat.le_of_ble_eq_true h2
  unfold fitsB
  rw [Bool.and_eq_true]
  refine ⟨Nat.ble_eq.mpr ?_, Nat.ble_eq.mpr ?_⟩
  · show _ ≤ 4 + (d + 1)
    omega
  · show _ ≤ 200 + 60 * (d + 1)
    omega
