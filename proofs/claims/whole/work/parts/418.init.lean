-- the constructor of the model; what holds at the start
section Init3
variable {G : GT} {n : Nat} {μ : Mem}
/-- the memory when the model has made its rows -/
def bigM (μ : Mem) : Mem := (up (nw (up (nw (up (nw (up (nw (up (nw (up (nw (up (nw (up (nw (up (nw (up (nw (up (nw (up (nw (up (nw (up (nw (up (nw μ (((400) : Nat) : Int) zeroD) 399 3 (((400) : Nat) : Int)) ((((400 + 1)) : Nat) : Int) zeroD) 399 6 ((((400 + 1)) : Nat) : Int)) (((((400 + 1) + 1)) : Nat) : Int) zeroD) 399 7 (((((400 + 1) + 1)) : Nat) : Int)) ((((((400 + 1) + 1) + 1)) : Nat) : Int) zeroD) 399 9 ((((((400 + 1) + 1) + 1)) : Nat) : Int)) (((((((400 + 1) + 1) + 1) + 1)) : Nat) : Int) zeroD) 399 10 (((((((400 + 1) + 1) + 1) + 1)) : Nat) : Int)) ((((((((400 + 1) + 1) + 1) + 1) + 1)) : Nat) : Int) zeroD) 399 11 ((((((((400 + 1) + 1) + 1) + 1) + 1)) : Nat) : Int)) (((((((((400 + 1) + 1) + 1) + 1) + 1) + 1)) : Nat) : Int) zeroD) 399 12 (((((((((400 + 1) + 1) + 1) + 1) + 1) + 1)) : Nat) : Int)) ((((((((((400 + 1) + 1) + 1) + 1) + 1) + 1) + 1)) : Nat) : Int) zeroD) 399 14 ((((((((((400 + 1) + 1) + 1) + 1) + 1) + 1) + 1)) : Nat) : Int)) (((((((((((400 + 1) + 1) + 1) + 1) + 1) + 1) + 1) + 1)) : Nat) : Int) zeroD) 399 15 (((((((((((400 + 1) + 1) + 1) + 1) + 1) + 1) + 1) + 1)) : Nat) : Int)) ((((((((((((400 + 1) + 1) + 1) + 1) + 1) + 1) + 1) + 1) + 1)) : Nat) : Int) zeroD) 399 16 ((((((((((((400 + 1) + 1) + 1) + 1) + 1) + 1) + 1) + 1) + 1)) : Nat) : Int)) (((((((((((((400 + 1) + 1) + 1) + 1) + 1) + 1) + 1) + 1) + 1) + 1)) : Nat) : Int) zeroD) 399 18 (((((((((((((400 + 1) + 1) + 1) + 1) + 1) + 1) + 1) + 1) + 1) + 1)) : Nat) : Int)) ((((((((((((((400 + 1) + 1) + 1) + 1) + 1) + 1) + 1) + 1) + 1) + 1) + 1)) : Nat) : Int) zeroD) 399 22 ((((((((((((((400 + 1) + 1) + 1) + 1) + 1) + 1) + 1) + 1) + 1) + 1) + 1)) : Nat) : Int)) (((((((((((((((400 + 1) + 1) + 1) + 1) + 1) + 1) + 1) + 1) + 1) + 1) + 1) + 1)) : Nat) : Int) zeroD) 399 23 (((((((((((((((400 + 1) + 1) + 1) + 1) + 1) + 1) + 1) + 1) + 1) + 1) + 1) + 1)) : Nat) : Int)) ((((((((((((((((400 + 1) + 1) + 1) + 1) + 1) + 1) + 1) + 1) + 1) + 1) + 1) + 1) + 1)) : Nat) : Int) zeroD) 399 25 ((((((((((((((((400 + 1) + 1) + 1) + 1) + 1) + 1) + 1) + 1) + 1) + 1) + 1) + 1) + 1)) : Nat) : Int)) (((((((((((((((((400 + 1) + 1) + 1) + 1) + 1) + 1) + 1) + 1) + 1) + 1) + 1) + 1) + 1) + 1)) : Nat) : Int) zeroD) 399 26 (((((((((((((((((400 + 1) + 1) + 1) + 1) + 1) + 1) + 1) + 1) + 1) + 1) + 1) + 1) + 1) + 1)) : Nat) : Int))
theorem bigM_lo {x : Int} (hx : x < 399) : bigM μ x = μ x := by
  unfold bigM
  rw [up_ne (by omega), nw_ne (by omega)]
  rw [up_ne (by omega), nw_ne (by omega)]
  rw [up_ne (by omega), nw_ne (by omega)]
  rw [up_ne (by omega), nw_ne (by omega)]
  rw [up_ne (by omega), nw_ne (by omega)]
  rw [up_ne (by omega), nw_ne (by omega)]
  rw [up_ne (by omega), nw_ne (by omega)]
  rw [up_ne (by omega), nw_ne (by omega)]
  rw [up_ne (by omega), nw_ne (by omega)]
  rw [up_ne (by omega), nw_ne (by omega)]
  rw [up_ne (by omega), nw_ne (by omega)]
  rw [up_ne (by omega), nw_ne (by omega)]
  rw [up_ne (by omega), nw_ne (by omega)]
  rw [up_ne (by omega), nw_ne (by omega)]
  rw [up_ne (by omega), nw_ne (by omega)]
theorem bigM_3 : bigM μ 399 3 = 400 := by
  unfold bigM
  rw [up_oth (by decide), nw_ne (by decide)]
  rw [up_oth (by decide), nw_ne (by decide)]
  rw [up_oth (by decide), nw_ne (by decide)]
  rw [up_oth (by decide), nw_ne (by decide)]
  rw [up_oth (by decide), nw_ne (by decide)]
  rw [up_oth (by decide), nw_ne (by decide)]
  rw [up_oth (by decide), nw_ne (by decide)]
  rw [up_oth (by decide), nw_ne (by decide)]
  rw [up_oth (by decide), nw_ne (by decide)]
  rw [up_oth (by decide), nw_ne (by decide)]
  rw [up_oth (by decide), nw_ne (by decide)]
  rw [up_oth (by decide), nw_ne (by decide)]
  rw [up_oth (by decide), nw_ne (by decide)]
  rw [up_oth (by decide), nw_ne (by decide)]
  rw [up_self]
  rfl
theorem bigM_6 : bigM μ 399 6 = 401 := by
  unfold bigM
  rw [up_oth (by decide), nw_ne (by decide)]
  rw [up_oth (by decide), nw_ne (by decide)]
  rw [up_oth (by decide), nw_ne (by decide)]
  rw [up_oth (by decide), nw_ne (by decide)]
  rw [up_oth (by decide), nw_ne (by decide)]
  rw [up_oth (by decide), nw_ne (by decide)]
  rw [up_oth (by decide), nw_ne (by decide)]
  rw [up_oth (by decide), nw_ne (by decide)]
  rw [up_oth (by decide), nw_ne (by decide)]
  rw [up_oth (by decide), nw_ne (by decide)]
  rw [up_oth (by decide), nw_ne (by decide)]
  rw [up_oth (by decide), nw_ne (by decide)]
  rw [up_oth (by decide), nw_ne (by decide)]
  rw [up_self]
  rfl
theorem bigM_7 : bigM μ 399 7 = 402 := by
  unfold bigM
  rw [up_oth (by decide), nw_ne (by decide)]
  rw [up_oth (by decide), nw_ne (by decide)]
  rw [up_oth (by decide), nw_ne (by decide)]
  rw [up_oth (by decide), nw_ne (by decide)]
  rw [up_oth (by decide), nw_ne (by decide)]
  rw [up_oth (by decide), nw_ne (by decide)]
  rw [up_oth (by decide), nw_ne (by decide)]
  rw [up_oth (by decide), nw_ne (by decide)]
  rw [up_oth (by decide), nw_ne (by decide)]
  rw [up_oth (by decide), nw_ne (by decide)]
  rw [up_oth (by decide), nw_ne (by decide)]
  rw [up_oth (by decide), nw_ne (by decide)]
  rw [up_self]
  rfl
theorem bigM_9 : bigM μ 399 9 = 403 := by
  unfold bigM
  rw [up_oth (by decide), nw_ne (by decide)]
  rw [up_oth (by decide), nw_ne (by decide)]
  rw [up_oth (by decide), nw_ne (by decide)]
  rw [up_oth (by decide), nw_ne (by decide)]
  rw [up_oth (by decide), nw_ne (by decide)]
  rw [up_oth (by decide), nw_ne (by decide)]
  rw [up_oth (by decide), nw_ne (by decide)]
  rw [up_oth (by decide), nw_ne (by decide)]
  rw [up_oth (by decide), nw_ne (by decide)]
  rw [up_oth (by decide), nw_ne (by decide)]
  rw [up_oth (by decide), nw_ne (by decide)]
  rw [up_self]
  rfl
theorem bigM_10 : bigM μ 399 10 = 404 := by
  unfold bigM
  rw [up_oth (by decide), nw_ne (by decide)]
  rw [up_oth (by decide), nw_ne (by decide)]
  rw [up_oth (by decide), nw_ne (by decide)]
  rw [up_oth (by decide), nw_ne (by decide)]
  rw [up_oth (by decide), nw_ne (by decide)]
  rw [up_oth (by decide), nw_ne (by decide)]
  rw [up_oth (by decide), nw_ne (by decide)]
  rw [up_oth (by decide), nw_ne (by decide)]
  rw [up_oth (by decide), nw_ne (by decide)]
  rw [up_oth (by decide), nw_ne (by decide)]
  rw [up_self]
  rfl
theorem bigM_11 : bigM μ 399 11 = 405 := by
  unfold bigM
  rw [up_oth (by decide), nw_ne (by decide)]
  rw [up_oth (by decide), nw_ne (by decide)]
  rw [up_oth (by decide), nw_ne (by decide)]
  rw [up_oth (by decide), nw_ne (by decide)]
  rw [up_oth (by decide), nw_ne (by decide)]
  rw [up_oth (by decide), nw_ne (by decide)]
  rw [up_oth (by decide), nw_ne (by decide)]
  rw [up_oth (by decide), nw_ne (by decide)]
  rw [up_oth (by decide), nw_ne (by decide)]
  rw [up_self]
  rfl
theorem bigM_12 : bigM μ 399 12 = 406 := by
  unfold bigM
  rw [up_oth (by decide), nw_ne (by decide)]
  rw [up_oth (by decide), nw_ne (by decide)]
  rw [up_oth (by decide), nw_ne (by decide)]
  rw [up_oth (by decide), nw_ne (by decide)]
  rw [up_oth (by decide), nw_ne (by decide)]
  rw [up_oth (by decide), nw_ne (by decide)]
  rw [up_oth (by decide), nw_ne (by decide)]
  rw [up_oth (by decide), nw_ne (by decide)]
  rw [up_self]
  rfl
theorem bigM_14 : bigM μ 399 14 = 407 := by
  unfold bigM
  rw [up_oth (by decide), nw_ne (by decide)]
  rw [up_oth (by decide), nw_ne (by decide)]
  rw [up_oth (by decide), nw_ne (by decide)]
  rw [up_oth (by decide), nw_ne (by decide)]
  rw [up_oth (by decide), nw_ne (by decide)]
  rw [up_oth (by decide), nw_ne (by decide)]
  rw [up_oth (by decide), nw_ne (by decide)]
  rw [up_self]
  rfl
theorem bigM_15 : bigM μ 399 15 = 408 := by
  unfold bigM
  rw [up_oth (by decide), nw_ne (by decide)]
  rw [up_oth (by decide), nw_ne (by decide)]
  rw [up_oth (by decide), nw_ne (by decide)]
  rw [up_oth (by decide), nw_ne (by decide)]
  rw [up_oth (by decide), nw_ne (by decide)]
  rw [up_oth (by decide), nw_ne (by decide)]
  rw [up_self]
  rfl
theorem bigM_16 : bigM μ 399 16 = 409 := by
  unfold bigM
  rw [up_oth (by decide), nw_ne (by decide)]
  rw [up_oth (by decide), nw_ne (by decide)]
  rw [up_oth (by decide), nw_ne (by decide)]
  rw [up_oth (by decide), nw_ne (by decide)]
  rw [up_oth (by decide), nw_ne (by decide)]
  rw [up_self]
  rfl
theorem bigM_18 : bigM μ 399 18 = 410 := by
  unfold bigM
  rw [up_oth (by decide), nw_ne (by decide)]
  rw [up_oth (by decide), nw_ne (by decide)]
  rw [up_oth (by decide), nw_ne (by decide)]
  rw [up_oth (by decide), nw_ne (by decide)]
  rw [up_self]
  rfl
theorem bigM_22 : bigM μ 399 22 = 411 := by
  unfold bigM
  rw [up_oth (by decide), nw_ne (by decide)]
  rw [up_oth (by decide), nw_ne (by decide)]
  rw [up_oth (by decide), nw_ne (by decide)]
  rw [up_self]
  rfl
theorem bigM_23 : bigM μ 399 23 = 412 := by
  unfold bigM
  rw [up_oth (by decide), nw_ne (by decide)]
  rw [up_oth (by decide), nw_ne (by decide)]
  rw [up_self]
  rfl
theorem bigM_25 : bigM μ 399 25 = 413 := by
  unfold bigM
  rw [up_oth (by decide), nw_ne (by decide)]
  rw [up_self]
  rfl
theorem bigM_26 : bigM μ 399 26 = 414 := by
  unfold bigM
  rw [up_self]
  rfl
theorem bigM_oth {k : Int} (h : k ≠ 3 ∧ k ≠ 6 ∧ k ≠ 7 ∧ k ≠ 9 ∧ k ≠ 10 ∧ k ≠ 11 ∧ k ≠ 12 ∧ k ≠ 14 ∧ k ≠ 15 ∧ k ≠ 16 ∧ k ≠ 18 ∧ k ≠ 22 ∧ k ≠ 23 ∧ k ≠ 25 ∧ k ≠ 26) : bigM μ 399 k = μ 399 k := by
  unfold bigM
  rw [up_oth (by omega), nw_ne (by decide)]
  rw [up_oth (by omega), nw_ne (by decide)]
  rw [up_oth (by omega), nw_ne (by decide)]
  rw [up_oth (by omega), nw_ne (by decide)]
  rw [up_oth (by omega), nw_ne (by decide)]
  rw [up_oth (by omega), nw_ne (by decide)]
  rw [up_oth (by omega), nw_ne (by decide)]
  rw [up_oth (by omega), nw_ne (by decide)]
  rw [up_oth (by omega), nw_ne (by decide)]
  rw [up_oth (by omega), nw_ne (by decide)]
  rw [up_oth (by omega), nw_ne (by decide)]
  rw [up_oth (by omega), nw_ne (by decide)]
  rw [up_oth (by omega), nw_ne (by decide)]
  rw [up_oth (by omega), nw_ne (by decide)]
  rw [up_oth (by omega), nw_ne (by decide)]
theorem bigM_FX (h : FXr 0 399 μ) : FX 415 (bigM μ) := by
  have h1 : FXr 0 399 (bigM μ) := h.keep (fun x x0 x1 => bigM_lo x1)
  have h2 : FXr 399 (399 + 1) (bigM μ) := FXr.one (fun k hk => by
    rw [St_399.2.2] at hk
    have hk' : k = 3 ∨ k = 6 ∨ k = 7 ∨ k = 9 ∨ k = 10 ∨ k = 11 ∨ k = 12 ∨ k = 14 ∨ k = 15 ∨ k = 16 ∨ k = 18 ∨ k = 22 ∨ k = 23 ∨ k = 25 ∨ k = 26 := by simpa [finK, or_assoc] using hk
    unfold FV
    rw [St_399.2.2]
    rcases hk' with rfl | rfl | rfl | rfl | rfl | rfl | rfl | rfl | rfl | rfl | rfl | rfl | rfl | rfl | rfl
    · exact bigM_3
    · exact bigM_6
    · exact bigM_7
    · exact bigM_9
    · exact bigM_10
    · exact bigM_11
    · exact bigM_12
    · exact bigM_14
    · exact bigM_15
    · exact bigM_16
    · exact bigM_18
    · exact bigM_22
    · exact bigM_23
    · exact bigM_25
    · exact bigM_26
    )
  have g0 : FXr 400 (400 + 1) (bigM μ) := FXr.non (a := 400) St_400 (fun k => rfl)
  have g1 : FXr 401 (401 + 1) (bigM μ) := FXr.non (a := 401) St_401 (fun k => rfl)
  have g2 : FXr 402 (402 + 1) (bigM μ) := FXr.non (a := 402) St_402 (fun k => rfl)
  have g3 : FXr 403 (403 + 1) (bigM μ) := FXr.non (a := 403) St_403 (fun k => rfl)
  have g4 : FXr 404 (404 + 1) (bigM μ) := FXr.non (a := 404) St_404 (fun k => rfl)
  have g5 : FXr 405 (405 + 1) (bigM μ) := FXr.non (a := 405) St_405 (fun k => rfl)
  have g6 : FXr 406 (406 + 1) (bigM μ) := FXr.non (a := 406) St_406 (fun k => rfl)
  have g7 : FXr 407 (407 + 1) (bigM μ) := FXr.non (a := 407) St_407 (fun k => rfl)
  have g8 : FXr 408 (408 + 1) (bigM μ) := FXr.non (a := 408) St_408 (fun k => rfl)
  have g9 : FXr 409 (409 + 1) (bigM μ) := FXr.non (a := 409) St_409 (fun k => rfl)
  have g10 : FXr 410 (410 + 1) (bigM μ) := FXr.non (a := 410) St_410 (fun k => rfl)
  have g11 : FXr 411 (411 + 1) (bigM μ) := FXr.non (a := 411) St_411 (fun k => rfl)
  have g12 : FXr 412 (412 + 1) (bigM μ) := FXr.non (a := 412) St_412 (fun k => rfl)
  have g13 : FXr 413 (413 + 1) (bigM μ) := FXr.non (a := 413) St_413 (fun k => rfl)
  have g14 : FXr 414 (414 + 1) (bigM μ) := FXr.non (a := 414) St_414 (fun k => rfl)
  have a : FXr 0 415 (bigM μ) := h1.app (h2.app (g0.app (g1.app (g2.app (g3.app (g4.app (g5.app (g6.app (g7.app (g8.app (g9.app (g10.app (g11.app (g12.app (g13.app g14)))))))))))))))
  exact ⟨Nat.le_refl _, fun x k x0 x1 hk => a x k x0 x1 hk⟩
theorem I_model (hg : gx G = fun _ _ => True) {Q : Nat → Mem → Prop} {μ0 : Mem} (hn : n = 400) (hμ : μ = nw μ0 399 (objD 11)) (h : IC μ0) (q : ∀ ν, FX 415 ν → INV 415 ν → Q 415 ν) : CV G Y_X11_init [.inr 399] n μ Q := by
  subst hn
  have ho : ∀ m : Nat, 399 < m → Oc m 399 11 28 := fun m hm => Oc_of St_399 (by omega)
  have hlo : ∀ x : Int, x < 399 → μ x = μ0 x := fun x hx => by rw [hμ, nw_ne (by omega)]
  have h9 : ∀ k, μ 399 k = objD 11 k := fun k => by rw [hμ, nw_at]
  obtain ⟨i0, i1, i2, i3, i4, i5, i6, i7⟩ := h
  have hf := bigM_FX (μ := μ) (i0.keep (fun x x0 x1 => hlo x x1))
  -- the two calls behind
  have fin : CV G Y_X11_begins [.inr 399] 415 (bigM μ) (fun n33 μ34 => (15 ≤ 15 ∧ 3068 ≤ 3068) ∧ Oc n33 399 11 28 ∧ CV G Y_X11_becomes [.inr 399] n33 μ34 (fun n36 μ37 => (15 ≤ 15 ∧ 3068 ≤ 3068) ∧ Q n36 μ37)) := by
    refine CV_mono (CV_gx (f := FX) hg hf (m_X11_begins (G := setX G FX) rfl (Q := fun n' ν => n' = 415 ∧ ν = up (up (bigM μ) 399 4 2) 399 5 0) ⟨rfl, rfl⟩)) (fun n' ν hq => ?_)
    obtain ⟨⟨rfl, rfl⟩, hfx⟩ := hq
    refine ⟨⟨by decide, by decide⟩, ho _ (by decide), ?_⟩
    refine CV_mono (CV_gx (f := FX) hg hfx (S_becomes (G := setX G FX) rfl (Q := fun n' ν => n' = 415 ∧ INV 415 ν) (fun ν g1 g2 g3 g4 g5 g6 g7 g8 g9 g10 g11 g12 => ⟨rfl, ?_⟩))) (fun n' ν hq => ⟨⟨by decide, by decide⟩, by obtain ⟨⟨rfl, hI⟩, hF⟩ := hq; exact q ν hF hI⟩)
    have v1 : ν 399 1 = 2 := by rw [g3, up_oth (by decide), up_self]
    have v2 : ν 399 2 = 0 := by rw [g4, up_self]
    have v17 : ν 399 17 = 0 := by
      rw [g2 17 (by decide) (by decide) (by decide) (by decide), up_oth (by decide), up_oth (by decide), bigM_oth (by decide), h9]
      rfl
    have lo : ∀ x : Int, x < 399 → ν x = μ0 x := fun x hx => by rw [g1 x (by omega) (by omega) (by omega) (by omega), up_ne (by omega), up_ne (by omega), bigM_lo hx, hlo x hx]
    unfold INV
    rw [v1, v2, g5, v17]
    refine ⟨by decide, ⟨by decide, by decide, by decide, by decide, fun c c0 c1 => by omega⟩, ⟨⟨⟨by omega, by omega, by omega, by omega, fun b b0 b1 => by omega⟩, fun b b0 b1 => by omega, fun b o c t b0 b1 => by omega⟩, by rw [g9]; exact ⟨by decide, by decide⟩, ⟨?_, ?_, ?_, fun b b0 b1 => by omega⟩⟩, ⟨?_, ?_, fun c c0 c1 => by omega⟩, ?_, ⟨?_, ?_, ⟨by decide, by decide⟩, fun k k0 k1 => by omega⟩, ⟨?_, fun i j0 j1 => Or.inl ⟨?_, ?_⟩⟩, ⟨?_, ?_, fun k k0 k1 => ?_⟩, ⟨by decide, by decide, fun k k0 k1 => by omega⟩, ⟨?_, fun k k0 k1 => by omega⟩⟩
    · rw [lo 18 (by decide), g10]; exact i5.1
    · rw [lo 18 (by decide), g8]; exact i5.2.1
    · rw [lo 18 (by decide), g9]; exact i5.2.2
    · rw [lo 7 (by decide)]; exact i3.2
    · rw [lo 7 (by decide)]; exact i3.1
    · rw [lo 13 (by decide), i4]; decide
    · rw [lo 76 (by decide)]; exact i6.2
    · rw [lo 76 (by decide), i6.1]; decide
    · rw [lo 0 (by decide), i1]; exact ⟨by decide, by decide⟩
    · by_cases ei : i = 0
      · rw [ei]; exact g11
      · rw [show i = 1 by omega]; exact g12
    · rw [lo 0 (by decide), i1]
      exact ms_0 ⟨j0, by omega⟩
    · rw [lo 397 (by decide), i7, g6]
    · rw [g6]; decide
    · rw [g6] at k1; omega
    · rw [lo 1 (by decide)]; exact i2
  have oc : ∀ m : Nat, 399 < m → Oc m 399 11 28 := ho
  refine m_X11_init hg ⟨by decide, ⟨by decide +kernel, by decide, by decide⟩, ho _ (by decide), ⟨by decide +kernel, by decide, by decide⟩, ho _ (by decide), ⟨by decide +kernel, by decide, by decide⟩, ho _ (by decide), ⟨by decide +kernel, by decide, by decide⟩, ho _ (by decide), ⟨by decide +kernel, by decide, by decide⟩, ho _ (by decide), ⟨by decide +kernel, by decide, by decide⟩, ho _ (by decide), ⟨by decide +kernel, by decide, by decide⟩, ho _ (by decide), ⟨by decide +kernel, by decide, by decide⟩, ho _ (by decide), ⟨by decide +kernel, by decide, by decide⟩, ho _ (by decide), ⟨by decide +kernel, by decide, by decide⟩, ho _ (by decide), ⟨by decide +kernel, by decide, by decide⟩, ho _ (by decide), ⟨by decide +kernel, by decide, by decide⟩, ho _ (by decide), ⟨by decide +kernel, by decide, by decide⟩, ho _ (by decide), ⟨by decide +kernel, by decide, by decide⟩, ho _ (by decide), ⟨by decide +kernel, by decide, by decide⟩, ho _ (by decide), ⟨by decide, by decide⟩, ho _ (by decide), ?_⟩
  exact fin
end Init3
