-- class and model side by side: what holds between two calls
def ImgR (nd cn : Int) (of : Int → Int) (μ : Mem) : Prop := st8 (μ 0 11) ∧ ∀ i, 0 ≤ i → i ≤ 1 → (μ 405 i = 0 ∧ ¬ msB (μ 0 11) i) ∨ (μ 405 i ≠ 0 ∧ msB (μ 0 11) i ∧ SvRel nd cn of (rowF (μ 404) i) μ (339 + 29 * i))
def ObsR (nd : Int) (μ : Mem) : Prop := μ 397 2 = μ 399 13 ∧ (0 ≤ μ 399 13 ∧ μ 399 13 ≤ 6) ∧ ∀ k, 0 ≤ k → k < μ 399 13 → (μ (397 + 1) (3 * k + 0) = μ 407 k ∧ μ (397 + 1) (3 * k + 1) = μ 408 k ∧ μ (397 + 1) (3 * k + 2) = μ 409 k) ∧ (0 ≤ μ 407 k ∧ μ 407 k < nd) ∧ (0 ≤ μ 408 k ∧ μ 408 k < nd) ∧ μ 407 k ≠ μ 408 k ∧ 0 ≤ μ 409 k ∧ μ 409 k ≤ 121
def INV (n : Nat) (μ : Mem) : Prop :=
  415 ≤ n ∧ PW (μ 399 1) (μ 399 2) (μ 400) ∧ SvRel (μ 399 1) (μ 399 2) (μ 400) (μ 402) μ 18 ∧ NRel n μ 7 (μ 399 1) (μ 399 2) (μ 400) ∧ (0 ≤ μ 13 2 ∧ μ 13 2 ≤ 6) ∧ HRel (μ 399 1) (μ 399 2) (μ 400) μ (μ 399 8) (μ 403) ∧ ImgR (μ 399 1) (μ 399 2) (μ 400) μ ∧ ObsR (μ 399 1) μ ∧ TxP (μ 399 17) (μ 410) ∧ TxR μ (μ 399 17) (μ 410)
theorem INV.mi {n : Nat} {μ : Mem} (h : INV n μ) : MI μ := by
  obtain ⟨h1, h2, h3, h4, h5, h6, -⟩ := h
  exact ⟨h2, h3.1.1, h6.2.2.1, h3.2.1⟩
theorem ImgR_keep {nd cn : Int} {of : Int → Int} {μ ν : Mem} (h0 : ν 0 11 = μ 0 11) (h4 : ν 404 = μ 404) (h5 : ν 405 = μ 405) (h : ∀ r, 339 ≤ r → r < 397 → ν r = μ r) (q : ImgR nd cn of μ) : ImgR nd cn of ν := by
  obtain ⟨q1, q2⟩ := q
  unfold ImgR
  rw [h0, h4, h5]
  refine ⟨q1, fun i i0 i1 => ?_⟩
  rcases q2 i i0 i1 with g | ⟨g1, g2, g3⟩
  · exact Or.inl g
  · exact Or.inr ⟨g1, g2, SvRel_keep (fun r r0 r1 => h r (by omega) (by omega)) g3⟩
theorem ObsR_keep {nd : Int} {μ ν : Mem} (h1 : ν 397 2 = μ 397 2) (h2 : ν (397 + 1) = μ (397 + 1)) (h3 : ν 399 13 = μ 399 13) (h7 : ν 407 = μ 407) (h8 : ν 408 = μ 408) (h9 : ν 409 = μ 409) (q : ObsR nd μ) : ObsR nd ν := by
  unfold ObsR
  rw [h1, h2, h3, h7, h8, h9]
  exact q
/-- nothing that counts has changed -/
theorem INV_frame {n n' : Nat} {μ ν : Mem} (h : INV n μ) (hn : n ≤ n') (hf : ∀ r : Int, ¬ (10 ≤ r ∧ r ≤ 16) → ¬ (47 ≤ r ∧ r < 76) → r ≠ 3 → r ≠ 4 → r ≠ 6 → r ≠ 399 → r ≠ 401 → r ≠ 406 → ¬ (411 ≤ r ∧ r ≤ 414) → r < n → ν r = μ r)
    (f : ∀ k, k = 1 ∨ k = 2 ∨ k = 8 ∨ k = 13 ∨ k = 17 → ν 399 k = μ 399 k) (h13 : 0 ≤ ν 13 2 ∧ ν 13 2 ≤ 6) : INV n' ν := by
  obtain ⟨h1, h2, h3, h4, h5, h6, h7, h8, h9, h10⟩ := h
  have g : ∀ r : Int, ¬ (10 ≤ r ∧ r ≤ 16) → ¬ (47 ≤ r ∧ r < 76) → r ≠ 3 → r ≠ 4 → r ≠ 6 → r ≠ 399 → r ≠ 401 → r ≠ 406 → r < 411 → ν r = μ r := fun r r1 r2 r3 r4 r5 r6 r7 r8 r9 => hf r r1 r2 r3 r4 r5 r6 r7 r8 (by omega) (by omega)
  have e0 : ν 400 = μ 400 := g 400 (by decide) (by decide) (by decide) (by decide) (by decide) (by decide) (by decide) (by decide) (by decide)
  have e2 : ν 402 = μ 402 := g 402 (by decide) (by decide) (by decide) (by decide) (by decide) (by decide) (by decide) (by decide) (by decide)
  have e3 : ν 403 = μ 403 := g 403 (by decide) (by decide) (by decide) (by decide) (by decide) (by decide) (by decide) (by decide) (by decide)
  have e10 : ν 410 = μ 410 := g 410 (by decide) (by decide) (by decide) (by decide) (by decide) (by decide) (by decide) (by decide) (by decide)
  unfold INV
  rw [f 1 (by omega), f 2 (by omega), f 8 (by omega), f 17 (by omega), e0, e2, e3, e10]
  refine ⟨by omega, h2, SvRel_keep (fun r r0 r1 => g r (by omega) (by omega) (by omega) (by omega) (by omega) (by omega) (by omega) (by omega) (by omega)) h3, NRel_keep hn (g 7 (by decide) (by decide) (by decide) (by decide) (by decide) (by decide) (by decide) (by decide) (by decide)) (g (7 + 2) (by decide) (by decide) (by decide) (by decide) (by decide) (by decide) (by decide) (by decide) (by decide)) (fun p hp => hf p (by omega) (by omega) (by omega) (by omega) (by omega) (by omega) (by omega) (by omega) (by omega) (by omega)) h4, h13, HRel_keep (g 76 (by decide) (by decide) (by decide) (by decide) (by decide) (by decide) (by decide) (by decide) (by decide)) (fun r r0 r1 => g r (by omega) (by omega) (by omega) (by omega) (by omega) (by omega) (by omega) (by omega) (by omega)) h6, ImgR_keep ?_ ?_ ?_ (fun r r0 r1 => g r (by omega) (by omega) (by omega) (by omega) (by omega) (by omega) (by omega) (by omega) (by omega)) h7, ObsR_keep ?_ ?_ (f 13 (by omega)) ?_ ?_ ?_ h8, h9, ?_⟩
  · rw [g 0 (by decide) (by decide) (by decide) (by decide) (by decide) (by decide) (by decide) (by decide) (by decide)]
  · exact g 404 (by decide) (by decide) (by decide) (by decide) (by decide) (by decide) (by decide) (by decide) (by decide)
  · exact g 405 (by decide) (by decide) (by decide) (by decide) (by decide) (by decide) (by decide) (by decide) (by decide)
  · rw [g 397 (by decide) (by decide) (by decide) (by decide) (by decide) (by decide) (by decide) (by decide) (by decide)]
  · exact g (397 + 1) (by decide) (by decide) (by decide) (by decide) (by decide) (by decide) (by decide) (by decide) (by decide)
  · exact g 407 (by decide) (by decide) (by decide) (by decide) (by decide) (by decide) (by decide) (by decide) (by decide)
  · exact g 408 (by decide) (by decide) (by decide) (by decide) (by decide) (by decide) (by decide) (by decide) (by decide)
  · exact g 409 (by decide) (by decide) (by decide) (by decide) (by decide) (by decide) (by decide) (by decide) (by decide)
  · unfold TxR
    rw [g 1 (by decide) (by decide) (by decide) (by decide) (by decide) (by decide) (by decide) (by decide) (by decide), g 2 (by decide) (by decide) (by decide) (by decide) (by decide) (by decide) (by decide) (by decide) (by decide)]
    exact h10
/-- a question of the class, then of the model -/
theorem INV_q {n : Nat} {μ ν ξ : Mem} (h : INV n μ) (hc : ∀ r : Int, ¬ (10 ≤ r ∧ r ≤ 16) → ¬ (47 ≤ r ∧ r < 76) → ν r = μ r) (h13 : 0 ≤ ν 13 2 ∧ ν 13 2 ≤ 6) (hq : FrQ ν ξ) : INV n ξ := by
  refine INV_frame h (Nat.le_refl _) (fun r r1 r2 r3 r4 r5 r6 r7 r8 r9 r10 => (hq.1 r r6 (by omega) (by omega) (by omega) (by omega)).trans (hc r r1 r2)) (fun k hk => (hq.2 k (by omega) (by omega) (by omega)).trans (congrFun (hc 399 (by decide) (by decide)) k)) ?_
  rw [hq.1 13 (by decide) (by decide) (by decide) (by decide) (by decide)]
  exact h13
/-- the model behind a question of the class -/
theorem MI_c {n : Nat} {μ ν : Mem} (h : INV n μ) (hc : ∀ r : Int, ¬ (10 ≤ r ∧ r ≤ 16) → ¬ (47 ≤ r ∧ r < 76) → ν r = μ r) : MI ν ∧ ν 399 = μ 399 ∧ ν 400 = μ 400 ∧ ν 402 = μ 402 := by
  have e9 := hc 399 (by decide) (by decide)
  have e0 := hc 400 (by decide) (by decide)
  have e2 := hc 402 (by decide) (by decide)
  have := h.mi
  refine ⟨?_, e9, e0, e2⟩
  unfold MI
  rw [e9, e0, e2]
  exact this
/-- what an action of the class may change -/
def FrC (μ ν : Mem) : Prop := ∀ r : Int, ¬ (10 ≤ r ∧ r ≤ 16) → ¬ (18 ≤ r ∧ r < 47) → r ≠ 76 → ¬ (107 ≤ r ∧ r < 339) → ν r = μ r
theorem FrC.h {μ ν : Mem} (h : FrH μ ν) : FrC μ ν := fun r _ _ r3 r4 => h r r3 r4
theorem FrC.l {μ ν ξ : Mem} (h : FrC μ ν) (h2 : FrL 18 ν ξ) : FrC μ ξ := fun r r1 r2 r3 r4 => (h2 r (by omega) r1).trans (h r r1 r2 r3 r4)
theorem FrC.s {μ ν ξ : Mem} (h : FrC μ ν) (h2 : FrS 18 ν ξ) : FrC μ ξ := fun r r1 r2 r3 r4 => (h2 r (by omega)).trans (h r r1 r2 r3 r4)
theorem FrC.m {μ ν : Mem} (h : FrC μ ν) (hM : MI μ) : MI ν ∧ ν 399 = μ 399 ∧ ν 400 = μ 400 ∧ ν 402 = μ 402 ∧ ν 403 = μ 403 := by
  have e9 := h 399 (by decide) (by decide) (by decide) (by decide)
  have e0 := h 400 (by decide) (by decide) (by decide) (by decide)
  have e2 := h 402 (by decide) (by decide) (by decide) (by decide)
  have e3 := h 403 (by decide) (by decide) (by decide) (by decide)
  refine ⟨?_, e9, e0, e2, e3⟩
  unfold MI
  rw [e9, e0, e2]
  exact hM
theorem NRel_C {n : Nat} {μ ν : Mem} {nd cn : Int} {of : Int → Int} (h : FrC μ ν) (hN : NRel n μ 7 nd cn of) : NRel n ν 7 nd cn of :=
  NRel_keep (Nat.le_refl _) (h 7 (by decide) (by decide) (by decide) (by decide)) (h (7 + 2) (by decide) (by decide) (by decide) (by decide)) (fun p hp => h p (by omega) (by omega) (by omega) (by omega)) hN
/-- an action of the class, then of the model -/
theorem INV_act {n : Nat} {μ ν ξ : Mem} {s' : Int → Int} {d : Int} (h : INV n μ) (hc : FrC μ ν) (h13 : 0 ≤ ν 13 2 ∧ ν 13 2 ≤ 6)
    (hH : ∀ past' d, isD (μ 399 8) d → (∀ k j, 0 ≤ k → k < μ 399 8 - d → 0 ≤ j → j < 163 → past' (163 * k + j) = μ 403 (163 * (k + d) + j)) → (∀ j, 0 ≤ j → j < 163 → past' (163 * (μ 399 8 - d) + j) = μ 402 j) → HRel (μ 399 1) (μ 399 2) (μ 400) ν (μ 399 8 + 1 - d) past')
    (hS : SvRel (μ 399 1) (μ 399 2) (μ 400) s' ν 18) (hA : FrA ν ξ) (hd : isD (ν 399 8) d) (e2 : ξ 402 = s') (hP : NoteP ν ξ d) : INV n ξ := by
  obtain ⟨h1, h2, h3, h4, h5, h6, h7, h8, h9, h10⟩ := h
  have e9 := hc 399 (by decide) (by decide) (by decide) (by decide)
  have e0 := hc 400 (by decide) (by decide) (by decide) (by decide)
  have e02 := hc 402 (by decide) (by decide) (by decide) (by decide)
  have e03 := hc 403 (by decide) (by decide) (by decide) (by decide)
  obtain ⟨p1, p2, p3⟩ := hP
  rw [e9] at p1 p2 p3 hd
  rw [e03] at p2
  rw [e02] at p3
  have f : ∀ k, k = 1 ∨ k = 2 ∨ k = 13 ∨ k = 17 → ξ 399 k = μ 399 k := fun k hk => (hA.2 k (by omega) (by omega) (by omega) (by omega)).trans (congrFun e9 k)
  have a : ∀ r : Int, r ≠ 399 → r ≠ 402 → r ≠ 403 → ¬ (411 ≤ r ∧ r ≤ 414) → ξ r = ν r := fun r r1 r2 r3 r4 => hA.1 r r1 r2 r3 (by omega) (by omega) (by omega) (by omega)
  have g : ∀ r : Int, ¬ (10 ≤ r ∧ r ≤ 16) → ¬ (18 ≤ r ∧ r < 47) → r ≠ 76 → ¬ (107 ≤ r ∧ r < 339) → r ≠ 399 → r ≠ 402 → r ≠ 403 → ¬ (411 ≤ r ∧ r ≤ 414) → ξ r = μ r := fun r r1 r2 r3 r4 r5 r6 r7 r8 => (a r r5 r6 r7 r8).trans (hc r r1 r2 r3 r4)
  have x0 : ξ 400 = μ 400 := g 400 (by decide) (by decide) (by decide) (by decide) (by decide) (by decide) (by decide) (by decide)
  have x10 : ξ 410 = μ 410 := g 410 (by decide) (by decide) (by decide) (by decide) (by decide) (by decide) (by decide) (by decide)
  unfold INV
  rw [f 1 (by omega), f 2 (by omega), f 17 (by omega), x0, x10, e2, p1]
  refine ⟨h1, h2, SvRel_keep (fun r r0 r1 => a r (by omega) (by omega) (by omega) (by omega)) hS, NRel_keep (Nat.le_refl _) (g 7 (by decide) (by decide) (by decide) (by decide) (by decide) (by decide) (by decide) (by decide)) (g (7 + 2) (by decide) (by decide) (by decide) (by decide) (by decide) (by decide) (by decide) (by decide)) (fun p hp => g p (by omega) (by omega) (by omega) (by omega) (by omega) (by omega) (by omega) (by omega)) h4, ?_, HRel_keep (a 76 (by decide) (by decide) (by decide) (by decide)) (fun r r0 r1 => a r (by omega) (by omega) (by omega) (by omega)) (hH (ξ 403) d hd (fun k j k0 k1 j0 j1 => p2 k j k0 k1 j0 j1) (fun j j0 j1 => p3 j j0 j1)), ImgR_keep ?_ ?_ ?_ (fun r r0 r1 => g r (by omega) (by omega) (by omega) (by omega) (by omega) (by omega) (by omega) (by omega)) h7, ObsR_keep ?_ ?_ (f 13 (by omega)) ?_ ?_ ?_ h8, h9, ?_⟩
  · rw [a 13 (by decide) (by decide) (by decide) (by decide)]; exact h13
  · rw [g 0 (by decide) (by decide) (by decide) (by decide) (by decide) (by decide) (by decide) (by decide)]
  · exact g 404 (by decide) (by decide) (by decide) (by decide) (by decide) (by decide) (by decide) (by decide)
  · exact g 405 (by decide) (by decide) (by decide) (by decide) (by decide) (by decide) (by decide) (by decide)
  · rw [g 397 (by decide) (by decide) (by decide) (by decide) (by decide) (by decide) (by decide) (by decide)]
  · exact g (397 + 1) (by decide) (by decide) (by decide) (by decide) (by decide) (by decide) (by decide) (by decide)
  · exact g 407 (by decide) (by decide) (by decide) (by decide) (by decide) (by decide) (by decide) (by decide)
  · exact g 408 (by decide) (by decide) (by decide) (by decide) (by decide) (by decide) (by decide) (by decide)
  · exact g 409 (by decide) (by decide) (by decide) (by decide) (by decide) (by decide) (by decide) (by decide)
  · unfold TxR
    rw [g 1 (by decide) (by decide) (by decide) (by decide) (by decide) (by decide) (by decide) (by decide), g 2 (by decide) (by decide) (by decide) (by decide) (by decide) (by decide) (by decide) (by decide)]
    exact h10
/-- both answer alike, and what holds goes on to hold -/
def Pr (G : GT) (A B : MD) (as : List AV) (n : Nat) (μ : Mem) : Prop := CI G A (.inr 0 :: as) n μ (fun a n1 μ1 => CI G B (.inr 399 :: as) n1 μ1 (fun b n2 μ2 => a = b ∧ INV n2 μ2))
