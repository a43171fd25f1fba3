-- the model: actions but for passes
/-- the rows that an action may change -/
def FrA (μ ν : Mem) : Prop := (∀ a, a ≠ 399 → a ≠ 402 → a ≠ 403 → a ≠ 411 → a ≠ 412 → a ≠ 413 → a ≠ 414 → ν a = μ a) ∧ ∀ k, k ≠ 0 → k ≠ 8 → k ≠ 24 → k ≠ 27 → ν 399 k = μ 399 k
theorem FrA.rf {μ : Mem} : FrA μ μ := ⟨fun _ _ _ _ _ _ _ _ => rfl, fun _ _ _ _ _ => rfl⟩
theorem FrA.th {μ : Mem} {v : Int} : FrA μ (up μ 399 0 v) := ⟨fun a a1 _ _ _ _ _ _ => up_ne a1, fun k k0 _ _ _ => up_oth k0⟩
theorem FrA.s {μ ν : Mem} {k v : Int} (h : FrA μ ν) : FrA μ (up ν 402 k v) := ⟨fun a a1 a2 a3 a4 a5 a6 a7 => by rw [up_ne a2]; exact h.1 a a1 a2 a3 a4 a5 a6 a7, fun k k0 k1 k2 k3 => by rw [up_ne (by decide)]; exact h.2 k k0 k1 k2 k3⟩
theorem FrA.u {μ ν : Mem} {v : Int} (h : FrA μ ν) : FrA μ (up ν 399 8 v) := ⟨fun a a1 a2 a3 a4 a5 a6 a7 => by rw [up_ne a1]; exact h.1 a a1 a2 a3 a4 a5 a6 a7, fun k k0 k1 k2 k3 => by rw [up_oth k1]; exact h.2 k k0 k1 k2 k3⟩
theorem FrA.p {μ ν ξ : Mem} (h : FrA μ ν) (h2 : FrP ν ξ) : FrA μ ξ := ⟨fun a a1 a2 a3 a4 a5 a6 a7 => (h2.1 a a1 a2 a4 a5 a6 a7).trans (h.1 a a1 a2 a3 a4 a5 a6 a7), fun k k0 k1 k2 k3 => (h2.2 k k2 k3).trans (h.2 k k0 k1 k2 k3)⟩
theorem FrA.n {μ ν ξ : Mem} (h : FrA μ ν) (h2 : Fr1 403 8 ν ξ) : FrA μ ξ := ⟨fun a a1 a2 a3 a4 a5 a6 a7 => (h2.1 a a1 a3).trans (h.1 a a1 a2 a3 a4 a5 a6 a7), fun k k0 k1 k2 k3 => (h2.2 k k1).trans (h.2 k k0 k1 k2 k3)⟩
theorem FrA.b {μ ν ξ : Mem} {a0 : Int} (ha : a0 = 402 ∨ a0 = 403 ∨ a0 = 411 ∨ a0 = 412 ∨ a0 = 413 ∨ a0 = 414) (h : FrA μ ν) (h2 : But a0 ν ξ) : FrA μ ξ := ⟨fun a a1 a2 a3 a4 a5 a6 a7 => (h2 a (by omega)).trans (h.1 a a1 a2 a3 a4 a5 a6 a7), fun k k0 k1 k2 k3 => by rw [h2 399 (by omega)]; exact h.2 k k0 k1 k2 k3⟩
/-- the model as it may stand: the plan, the present numbers, how many are noted -/
def MI (μ : Mem) : Prop := PW (μ 399 1) (μ 399 2) (μ 400) ∧ SR (μ 399 1) (μ 399 2) (μ 400) (μ 402) ∧ (0 ≤ μ 399 8 ∧ μ 399 8 ≤ 8) ∧ st8 (μ 402 1)
/-- a bundle newly sent -/
noncomputable def newP (s : Int → Int) (v g w d p : Int) : Int → Int :=
  set1 (set1 (set1 (set1 (set1 (set1 (set1 (set1 (set1 (set1 s 2 (s 2 + 1)) (3 + 20 * s 2 + 0) w) (3 + 20 * s 2 + 1) g) (3 + 20 * s 2 + 2) d) (3 + 20 * s 2 + 3) p) (3 + 20 * s 2 + 4) v) (3 + 20 * s 2 + 5) 0) (3 + 20 * s 2 + 6) 0) (3 + 20 * s 2 + 7) (-9)) (3 + 20 * s 2 + 9) 0
theorem newP_lo {s : Int → Int} {v g w d p k : Int} (h0 : 0 ≤ s 2) (hk : k < 3) : newP s v g w d p k = if k = 2 then s 2 + 1 else s k := by
  unfold newP
  repeat rw [set1_ne (by omega)]
  rfl
theorem newP_it {s : Int → Int} {v g w d p b k : Int} (h0 : 0 ≤ s 2) (hb : 0 ≤ b) (hk : 0 ≤ k ∧ k < 20) : it (newP s v g w d p) b k = if b = s 2 then (if k = 9 then 0 else if k = 7 then -9 else if k = 6 then 0 else if k = 5 then 0 else if k = 4 then v else if k = 3 then p else if k = 2 then d else if k = 1 then g else if k = 0 then w else it s b k) else it s b k := by
  unfold newP
  rw [it_set (by omega) hk, it_set (by omega) hk, it_set (by omega) hk, it_set (by omega) hk, it_set (by omega) hk, it_set (by omega) hk, it_set (by omega) hk, it_set (by omega) hk, it_set (by omega) hk, show it (set1 s 2 (s 2 + 1)) b k = it s b k from set1_ne (by omega)]
  by_cases e : b = s 2
  · rw [if_pos e]
    simp only [e, true_and]
  · rw [if_neg e]
    simp only [e, false_and, if_false]
theorem newP_SR {nd cn : Int} {of s : Int → Int} {v g w d p : Int} (hs : SR nd cn of s) (hm : s 2 ≤ 7) (hv : 0 ≤ v ∧ v < nd) (hg : 0 ≤ g ∧ g < nd) (hw : 1 ≤ w ∧ w ≤ 20) (hd : 0 ≤ d ∧ d ≤ 99) (hp : 0 ≤ p ∧ p ≤ 2) : SR nd cn of (newP s v g w d p) := by
  obtain ⟨h1, h2, h3, h4, h5⟩ := hs
  have e0 : newP s v g w d p 0 = s 0 := (newP_lo h3 (by decide)).trans (if_neg (by decide))
  have e2 : newP s v g w d p 2 = s 2 + 1 := (newP_lo h3 (by decide)).trans (if_pos rfl)
  refine ⟨by omega, by omega, by omega, by omega, fun b b0 b1 => ?_⟩
  by_cases e : b = s 2
  · have f : ∀ k, 0 ≤ k ∧ k < 20 → it (newP s v g w d p) b k = if k = 9 then 0 else if k = 7 then -9 else if k = 6 then 0 else if k = 5 then 0 else if k = 4 then v else if k = 3 then p else if k = 2 then d else if k = 1 then g else if k = 0 then w else it s b k := fun k hk => (newP_it h3 b0 hk).trans (if_pos e)
    unfold BR
    rw [f 0 (by decide), f 1 (by decide), f 2 (by decide), f 3 (by decide), f 4 (by decide), f 5 (by decide), f 6 (by decide), f 7 (by decide), f 9 (by decide)]
    exact ⟨hw.1, hw.2, hg.1, hg.2, hd.1, hd.2, hp.1, hp.2, hv.1, hv.2, Or.inl rfl, Or.inl rfl, Or.inl rfl, (show (0 : Int) ≤ 0 by decide), (show (0 : Int) ≤ 5 by decide), fun k k0 k1 => absurd k1 (by show ¬ k < 0; omega), fun q => absurd rfl q⟩
  · exact BR_same (fun k k0 k1 => (newP_it h3 b0 ⟨k0, k1⟩).trans (if_neg e)) (h5 b b0 (by omega))
/-- a bundle loses the hop that it is on its way on, by the loss of a contact -/
def cutB (of s : Int → Int) (c b : Int) : Prop := it s b 7 = c ∧ s 0 < it s b 8 + tkD of (it s b 0) c
def hopOn (s : Int → Int) (c b : Int) : Prop := ∃ k, 0 ≤ k ∧ k < it s b 9 ∧ hopC s b k = c
def lostB (of s : Int → Int) (c b : Int) : Prop := cutB of s c b ∨ hopOn s c b
/-- a set as bits -/
noncomputable def setP (p : Int → Prop) : Nat → Int
  | 0 => 0
  | m + 1 => iOr (setP p m) (@ite _ (p m) (Classical.propDecidable _) (iShl 1 m) 0)
theorem setP_st (p : Int → Prop) {m : Nat} (hm : m ≤ 8) : st8 (setP p m) := by
  induction m with
  | zero => exact (show st8 0 from ⟨by decide, by decide⟩)
  | succ m ih =>
    unfold setP
    refine iOr_st (ih (by omega)) ?_
    by_cases h : p m
    · rw [if_pos h]
      exact shl_st ⟨by omega, by omega⟩
    · rw [if_neg h]
      exact ⟨by decide, by decide⟩
theorem setP_ms {p : Int → Prop} {m : Nat} (hm : m ≤ 8) {j : Int} (hj : 0 ≤ j ∧ j < 8) : msB (setP p m) j ↔ j < m ∧ p j := by
  induction m with
  | zero => exact ⟨fun h => absurd h (ms_0 hj), fun h => absurd h.1 (by omega)⟩
  | succ m ih =>
    unfold setP
    by_cases h : p m
    · rw [if_pos h, ms_or (setP_st p (by omega)) (shl_st ⟨by omega, by omega⟩) hj, ih (by omega), ms_shl ⟨by omega, by omega⟩ hj]
      constructor
      · rintro (g | g)
        · exact ⟨by omega, g.2⟩
        · rw [g]; exact ⟨by omega, h⟩
      · rintro ⟨g1, g2⟩
        by_cases e : j = m
        · exact Or.inr e
        · exact Or.inl ⟨by omega, g2⟩
    · rw [if_neg h, iOr_0 (setP_st p (by omega)), ih (by omega)]
      constructor
      · rintro ⟨g1, g2⟩
        exact ⟨by omega, g2⟩
      · rintro ⟨g1, g2⟩
        refine ⟨?_, g2⟩
        by_cases e : j = m
        · rw [e] at g2; exact absurd g2 h
        · omega
/-- st8 sets are their bits -/
theorem st_ext {x y : Int} (hx : st8 x) (hy : st8 y) (h : ∀ j, 0 ≤ j → j < 8 → (msB x j ↔ msB y j)) : x = y := by
  obtain ⟨a, rfl⟩ := Int.eq_ofNat_of_zero_le hx.1
  obtain ⟨b, rfl⟩ := Int.eq_ofNat_of_zero_le hy.1
  have ha : a < 256 := by have := hx.2; omega
  have hb : b < 256 := by have := hy.2; omega
  have : a = b := by
    apply Nat.eq_of_testBit_eq
    intro i
    by_cases hi : i < 8
    · have h1 := h i (by omega) (by omega)
      rw [(bit_at ha hi).2.2, (bit_at hb hi).2.2] at h1
      cases e1 : Nat.testBit a i <;> cases e2 : Nat.testBit b i <;> simp_all
    · have e1 : Nat.testBit a i = false := Nat.testBit_lt_two_pow (Nat.lt_of_lt_of_le (show a < 2 ^ 8 by omega) (Nat.pow_le_pow_right (by omega) (by omega)))
      have e2 : Nat.testBit b i = false := Nat.testBit_lt_two_pow (Nat.lt_of_lt_of_le (show b < 2 ^ 8 by omega) (Nat.pow_le_pow_right (by omega) (by omega)))
      rw [e1, e2]
  rw [this]
/-- the first bundles lose what hangs on a contact -/
noncomputable def loseS (of s : Int → Int) (c : Int) : Nat → Int → Int
  | 0 => s
  | k + 1 => @ite _ (lostB of s c k) (Classical.propDecidable _) (giveP (@ite _ (cutB of s c k) (Classical.propDecidable _) (set1 (loseS of s c k) (3 + 20 * (k : Int) + 7) (-9)) (loseS of s c k)) k) (loseS of s c k)
theorem set1_same (f : Int → Int) (j : Int) : set1 f j (f j) = f := by
  funext i
  unfold set1
  split
  · rename_i e; rw [e]
  · rfl
theorem loseS_hop {of s : Int → Int} {c : Int} {k : Nat} (h : lostB of s c k) (h2 : ¬ cutB of s c k) : loseS of s c (k + 1) = giveP (loseS of s c k) k :=
  (show loseS of s c (k + 1) = giveP (@ite _ (cutB of s c k) (Classical.propDecidable _) (set1 (loseS of s c k) (3 + 20 * (k : Int) + 7) (-9)) (loseS of s c k)) k from if_pos h).trans (by rw [if_neg h2])
theorem loseS_cut {of s : Int → Int} {c : Int} {k : Nat} (h : lostB of s c k) (h2 : cutB of s c k) : loseS of s c (k + 1) = giveP (set1 (loseS of s c k) (3 + 20 * (k : Int) + 7) (-9)) k :=
  (show loseS of s c (k + 1) = giveP (@ite _ (cutB of s c k) (Classical.propDecidable _) (set1 (loseS of s c k) (3 + 20 * (k : Int) + 7) (-9)) (loseS of s c k)) k from if_pos h).trans (by rw [if_pos h2])
theorem loseS_ge {of s : Int → Int} {c : Int} (k : Nat) {b w : Int} (hw : 0 ≤ w ∧ w < 20) (hb : k ≤ b ∨ (w ≠ 7 ∧ w ≠ 9)) : it (loseS of s c k) b w = it s b w := by
  induction k with
  | zero => rfl
  | succ k ih =>
    unfold loseS
    by_cases h : lostB of s c k
    · rw [if_pos h]
      refine (it_set_ne (by omega) hw (by omega)).trans ?_
      by_cases g : cutB of s c k
      · rw [if_pos g]
        exact (it_set_ne (by omega) hw (by omega)).trans (ih (by omega))
      · rw [if_neg g]
        exact ih (by omega)
    · rw [if_neg h]
      exact ih (by omega)
theorem loseS_lo {of s : Int → Int} {c : Int} (k : Nat) {j : Int} (hj : j < 3) : loseS of s c k j = s j := by
  induction k with
  | zero => rfl
  | succ k ih =>
    unfold loseS
    by_cases h : lostB of s c k
    · rw [if_pos h]
      refine (set1_ne (by omega)).trans ?_
      by_cases g : cutB of s c k
      · rw [if_pos g]
        exact (set1_ne (by omega)).trans ih
      · rw [if_neg g]
        exact ih
    · rw [if_neg h]
      exact ih
/-- what a bundle has on, and how many hops -/
theorem loseS_lt {of s : Int → Int} {c : Int} (k : Nat) {b : Int} (h0 : 0 ≤ b) (hb : b < k) : it (loseS of s c k) b 7 = @ite _ (cutB of s c b) (Classical.propDecidable _) (-9) (it s b 7) ∧ it (loseS of s c k) b 9 = @ite _ (lostB of s c b) (Classical.propDecidable _) 0 (it s b 9) := by
  induction k with
  | zero => omega
  | succ k ih =>
    unfold loseS
    by_cases e : b = k
    · subst e
      by_cases h : lostB of s c k
      · rw [if_pos h, if_pos h]
        refine ⟨(it_set_ne (by omega) (by omega) (by omega)).trans ?_, it_set_at (by omega)⟩
        by_cases g : cutB of s c k
        · rw [if_pos g, if_pos g]
          exact it_set_at (by omega)
        · rw [if_neg g, if_neg g]
          exact loseS_ge k (by omega) (Or.inl (by omega))
      · rw [if_neg h, if_neg h, if_neg (fun g => h (Or.inl g))]
        exact ⟨loseS_ge k (by omega) (Or.inl (by omega)), loseS_ge k (by omega) (Or.inl (by omega))⟩
    · have i := ih (by omega)
      by_cases h : lostB of s c k
      · rw [if_pos h]
        by_cases g : cutB of s c k
        · rw [if_pos g]
          exact ⟨(it_set_ne (by omega) (by omega) (by omega)).trans ((it_set_ne (by omega) (by omega) (by omega)).trans i.1), (it_set_ne (by omega) (by omega) (by omega)).trans ((it_set_ne (by omega) (by omega) (by omega)).trans i.2)⟩
        · rw [if_neg g]
          exact ⟨(it_set_ne (by omega) (by omega) (by omega)).trans i.1, (it_set_ne (by omega) (by omega) (by omega)).trans i.2⟩
      · rw [if_neg h]
        exact i
theorem BR_off {nd cn : Int} {of s : Int → Int} {b b' : Int} (hr : BR nd cn of s b') : BR nd cn of (set1 s (3 + 20 * b + 7) (-9)) b' := by
  have f : ∀ w, 0 ≤ w → w < 20 → w ≠ 7 → it (set1 s (3 + 20 * b + 7) (-9)) b' w = it s b' w := fun w w0 w1 w7 => it_set_ne (by omega) ⟨w0, w1⟩ (Or.inr w7)
  obtain ⟨a1, a2, a3, a4, a5, a6, a7, a8, a9, a10, a11, a12, a13, a14, a15, a16, a17⟩ := hr
  unfold BR hopC hopB at *
  rw [f 0 (by decide) (by decide) (by decide), f 1 (by decide) (by decide) (by decide), f 2 (by decide) (by decide) (by decide), f 3 (by decide) (by decide) (by decide), f 4 (by decide) (by decide) (by decide), f 5 (by decide) (by decide) (by decide), f 6 (by decide) (by decide) (by decide), f 8 (by decide) (by decide) (by decide), f 9 (by decide) (by decide) (by decide)]
  refine ⟨a1, a2, a3, a4, a5, a6, a7, a8, a9, a10, a11, a12, ?_, a14, a15, fun k h0 h1 => ?_, ?_⟩
  · rw [it_set (by omega) (by omega)]
    split
    · exact Or.inl rfl
    · exact a13
  · rw [f _ (by omega) (by omega) (by omega), f _ (by omega) (by omega) (by omega)]
    exact a16 k h0 h1
  · rw [it_set (by omega) (by omega)]
    split
    · exact fun q => absurd rfl q
    · exact a17
theorem loseS_SR {nd cn : Int} {of s : Int → Int} {c : Int} (k : Nat) (h : SR nd cn of s) : SR nd cn of (loseS of s c k) := by
  induction k with
  | zero => exact h
  | succ k ih =>
    unfold loseS
    by_cases g : lostB of s c k
    · rw [if_pos g]
      by_cases g2 : cutB of s c k
      · rw [if_pos g2]
        refine SR_give (by omega) ?_
        obtain ⟨h1, h2, h3, h4, h5⟩ := ih
        have e : ∀ j, j < 3 → set1 (loseS of s c k) (3 + 20 * (k : Int) + 7) (-9) j = loseS of s c k j := fun j hj => set1_ne (by omega)
        unfold SR
        rw [e 0 (by decide), e 2 (by decide)]
        exact ⟨h1, h2, h3, h4, fun b b0 b1 => BR_off (h5 b b0 b1)⟩
      · rw [if_neg g2]
        exact SR_give (by omega) ih
    · rw [if_neg g]
      exact ih
/-- the contact is missed: its bit -/
noncomputable def missP (s : Int → Int) (c : Int) : Int → Int := set1 s 1 (iOr (s 1) (iShl 1 c))
theorem missP_it {s : Int → Int} {c b w : Int} (hb : 0 ≤ b) (hw : 0 ≤ w) : it (missP s c) b w = it s b w := set1_ne (by omega)
theorem SR_set1 {nd cn v : Int} {of s : Int → Int} (h : SR nd cn of s) : SR nd cn of (set1 s 1 v) := by
  obtain ⟨h1, h2, h3, h4, h5⟩ := h
  unfold SR
  rw [show set1 s 1 v 0 = s 0 from set1_ne (by omega), show set1 s 1 v 2 = s 2 from set1_ne (by omega)]
  exact ⟨h1, h2, h3, h4, fun b b0 b1 => BR_same (fun w w0 w1 => set1_ne (by omega)) (h5 b b0 b1)⟩
/-- a contact is lost: the numbers, and who lost a hop -/
noncomputable def lossP (of s : Int → Int) (c : Int) : Int → Int := loseS of (missP s c) c (s 2).toNat
noncomputable def lossX (of s : Int → Int) (c : Int) : Int := setP (lostB of (missP s c) c) (s 2).toNat
noncomputable def findP (s : Int → Int) (c : Int) : Int → Int := set1 s 1 (iAnd (s 1) (iXor (iShl 1 c) (-1)))
noncomputable def findX (of s : Int → Int) (c : Int) : Int := setP (fun b => stateP of (findP s c) b = 0) (s 2).toNat
noncomputable def dropP (s : Int → Int) (b : Int) : Int → Int := set1 (giveP s b) (3 + 20 * b + 5) 1
section Acts
variable {G : GT} {n : Nat} {μ : Mem}
theorem th_399 (μ : Mem) {k : Int} (h : k ≠ 0) : (up μ 399 0 0) 399 k = μ 399 k := up_oth h
theorem th_ne (μ : Mem) {a : Int} (h : a ≠ 399) : (up μ 399 0 0) a = μ a := up_ne h
theorem MI.th {μ : Mem} (h : MI μ) : MI (up μ 399 0 0) := by
  unfold MI
  rw [th_399 μ (k := 1) (by decide), th_399 μ (k := 2) (by decide), th_399 μ (k := 8) (by decide), th_ne μ (a := 400) (by decide), th_ne μ (a := 402) (by decide)]
  exact h
theorem NoteP.th {μ ν : Mem} {d : Int} (h : NoteP (up μ 399 0 0) ν d) : NoteP μ ν d := by
  unfold NoteP at h
  rw [th_399 μ (k := 8) (by decide), th_ne μ (a := 402) (by decide), th_ne μ (a := 403) (by decide)] at h
  exact h
theorem NoteP.to {μ ν ξ : Mem} {d : Int} (h : NoteP μ ξ d) (h3 : ν 403 = ξ 403) (h8 : ν 399 8 = ξ 399 8) : NoteP μ ν d := by
  unfold NoteP
  rw [h3, h8]
  exact h
theorem S_drops (hg : gx G = FX) {Q : Int → Nat → Mem → Prop} {b : Int} (hM : MI μ) (q1 : ¬ (0 ≤ b ∧ b < μ 402 2) → Q (-1) n (up μ 399 0 0)) (q2 : 0 ≤ b → b < μ 402 2 → ¬ stateP (μ 400) (μ 402) b ≤ 1 → Q (-2) n (up μ 399 0 0))
    (q3 : 0 ≤ b → b < μ 402 2 → stateP (μ 400) (μ 402) b ≤ 1 → ∀ ν d, FrA μ ν → ((μ 399 8 = 8 ∧ d = 1) ∨ (μ 399 8 < 8 ∧ d = 0)) → ν 402 = dropP (μ 402) b → NoteP μ ν d → Q 1 n ν) : CI G Y_X11_drops [.inr 399, .inl b] n μ Q := by
  have hM' := hM.th
  have f0 : FrA μ (up μ 399 0 0) := FrA.th
  have e2 : (up μ 399 0 0) 402 = μ 402 := up_ne (by decide)
  have e4 : (up μ 399 0 0) 400 = μ 400 := up_ne (by decide)
  have e8 : (up μ 399 0 0) 399 8 = μ 399 8 := up_oth (by decide)
  refine m_X11_drops hg ?_
  have hnote : ∀ ξ d, NoteP (up μ 399 0 0) ξ d → NoteP μ ξ d := fun ξ d h => h.th
  generalize up μ 399 0 0 = μ1 at hM' f0 e2 e4 e8 q1 q2 hnote ⊢
  obtain ⟨hp, hs, hu, hms⟩ := hM'
  have hm8 := hs.2.2.2.1
  rw [← e2] at q1 q2 q3
  rw [← e4] at q2 q3
  rw [← e8] at q3
  refine S_isBundle hg ⟨hs.2.2.1, hm8⟩ (fun c => ⟨fun g => absurd rfl g, fun _ => q1 c⟩) (fun c => ⟨fun _ => ?_, fun g => absurd g (by decide)⟩)
  refine S_stateOf hg (by omega) hp (hs.2.2.2.2 b c.1 c.2) ⟨fun c1 => ?_, fun c1 => q2 c.1 c.2 c1⟩
  refine S_notes hg hu (fun ν d hF hd hN => ?_)
  have n2 : ν 402 = μ1 402 := hF.1 402 (by decide) (by decide)
  refine S_givesUp hg (by omega) (S_at hg (by omega) ⟨by omega, by omega, ?_⟩)
  refine q3 c.1 c.2 c1 _ d ((f0.n hF).s.s) hd ?_ ((hnote ν d hN).to (by rw [up_ne (by decide), up_ne (by decide)]) (by rw [up_ne (by decide), up_ne (by decide)]))
  rw [up_row, up_row, n2]
  rfl
theorem S_hasHopOn (hg : gx G = FX) {Q : Int → Nat → Mem → Prop} {nd cn b c : Int} (hb : 0 ≤ b ∧ b ≤ 7) (hB : BR nd cn (μ 400) (μ 402) b) (q0 : ¬ hopOn (μ 402) c b → Q 0 n μ) (q1 : hopOn (μ 402) c b → Q 1 n μ) : CI G Y_X11_hasHopOn [.inr 399, .inl b, .inl c] n μ Q := by
  obtain ⟨-, -, -, -, -, -, -, -, -, -, -, -, -, h90, h95, -, -⟩ := hB
  have key : ∀ (d : Nat) (k : Int), k + d = it (μ 402) b 9 → 0 ≤ k → (∀ j, 0 ≤ j → j < k → ¬ hopC (μ 402) b j = c) → B_X11_hasHopOn_2 G Q n μ b c k := by
    intro d
    induction d with
    | zero =>
      intro k e k0 h
      refine b_X11_hasHopOn_2 hg (S_its hg (by omega) ⟨fun _ => q0 ?_, fun g => absurd (by omega) g⟩)
      rintro ⟨j, j0, j1, j2⟩
      exact h j j0 (by omega) j2
    | succ d ih =>
      intro k e k0 h
      refine b_X11_hasHopOn_2 hg (S_its hg (by omega) ⟨fun g => absurd g (by omega), fun _ => ⟨by omega, by omega, S_its hg (by omega) ⟨fun g => ⟨by omega, ih (k + 1) (by omega) (by omega) (fun j j0 j1 => ?_)⟩, fun g => q1 ⟨k, k0, by omega, g⟩⟩⟩⟩)
      by_cases e2 : j = k
      · rw [e2]; exact g
      · exact h j j0 (by omega)
  exact m_X11_hasHopOn hg (key (it (μ 402) b 9).toNat 0 (by omega) (by omega) (fun j _ _ => by omega))
theorem S_loses (hg : gx G = FX) {Q : Nat → Mem → Prop} {nd cn c : Int} {of s s' : Int → Int} {r : Nat} (hp : PW nd cn of) (hs : SR nd cn of s) (hc : 0 ≤ c ∧ c < cn) (hPA : PA cn of r (lossP of s c) (lossX of s c) s') (e9 : μ 399 2 = cn) (e4 : μ 400 = of) (e2 : μ 402 = s)
    (q : ∀ ν, FrP μ ν → ν 402 = s' → Q n ν) : CV G Y_X11_loses [.inr 399, .inl c] n μ Q := by
  have hc8 := hp.2.2.2.1
  have hm8 := hs.2.2.2.1
  have hm0 := hs.2.2.1
  have hof := hp.2.2.2.2 c hc.1 hc.2
  have hs1 : SR nd cn of (missP s c) := SR_set1 hs
  have m2 : missP s c 2 = s 2 := set1_ne (by decide)
  have m0 : missP s c 0 = s 0 := set1_ne (by decide)
  refine m_X11_loses hg ?_
  have key : ∀ (d k : Nat) (ν : Mem), (k : Int) + d = s 2 → FrP μ ν → ν 402 = loseS of (missP s c) c k → B_X11_loses_16 G Q n ν c (setP (lostB of (missP s c) c) k) k := by
    intro d
    induction d with
    | zero =>
      intro k ν e hF h2
      have ek : k = (s 2).toNat := by omega
      subst ek
      refine b_X11_loses_16 hg ⟨fun _ => ?_, fun g => absurd (by rw [h2, loseS_lo _ (by decide), m2]; omega) g⟩
      exact S_plansAll hg hp (loseS_SR _ hs1) (setP_st _ (by omega)) hPA ((hF.2 2 (by decide) (by decide)).trans e9) ((hF.1 400 (by decide) (by decide) (by decide) (by decide) (by decide) (by decide)).trans e4) h2 (fun ξ hx h => q ξ (hF.tr hx) h)
    | succ d ih =>
      intro k ν e hF h2
      have v4 : ν 400 = of := (hF.1 400 (by decide) (by decide) (by decide) (by decide) (by decide) (by decide)).trans e4
      have hB := hs1.2.2.2.2 k (by omega) (by omega)
      have fk : ∀ w, 0 ≤ w → w < 20 → it (ν 402) k w = it (missP s c) k w := fun w w0 w1 => by rw [h2]; exact loseS_ge k ⟨w0, w1⟩ (Or.inl (by omega))
      have hBv : BR nd cn (ν 400) (ν 402) k := by rw [v4]; exact BR_same (fun w w0 w1 => fk w w0 w1) hB
      have v0 : ν 402 0 = missP s c 0 := by rw [h2]; exact loseS_lo _ (by decide)
      have i := ih (k + 1)
      have hhop : hopOn (ν 402) c k ↔ hopOn (missP s c) c k := by
        have hB16 := hB.2.2.2.2.2.2.2.2.2.2.2.2.2
        unfold hopOn hopC
        rw [fk 9 (by decide) (by decide)]
        constructor
        · rintro ⟨j, j0, j1, j2⟩
          rw [fk _ (by omega) (by omega)] at j2
          exact ⟨j, j0, j1, j2⟩
        · rintro ⟨j, j0, j1, j2⟩
          exact ⟨j, j0, j1, by rw [fk _ (by omega) (by omega)]; exact j2⟩
      -- it is not touched
      have no : ¬ lostB of (missP s c) c k → B_X11_loses_16 G Q n ν c (setP (lostB of (missP s c) c) k) (k + 1) := fun h => by
        have := i ν (by omega) hF (by rw [h2]; exact (if_neg h).symm)
        unfold setP at this
        rw [if_neg h, iOr_0 (setP_st _ (by omega))] at this
        exact this
      -- it gives up its hops, perhaps the one on its way, too
      have yes : ∀ u, lostB of (missP s c) c k → (u ≠ 0 ↔ cutB of (missP s c) c k) → B_X11_loses_86 G Q n ν c (setP (lostB of (missP s c) c) k) k u := fun u h hu => by
        refine b_X11_loses_86 hg (S_at hg (by omega) ⟨by omega, fun u0 => S_its hg (by omega) ?_, fun u0 => ?_⟩)
        · refine b_X11_loses_114 hg St_402 ⟨by omega, S_givesUp hg (by omega) ⟨by omega, ?_⟩⟩
          have := i (up (up ν 402 (3 + 20 * (k : Int) + 7) (it (ν 402) k 7)) 402 (3 + 20 * (k : Int) + 9) 0) (by omega) hF.s.s (by
            rw [up_row, up_row, h2, loseS_hop h (fun g => hu.mpr g u0)]
            exact congrArg (fun f => set1 f (3 + 20 * (k : Int) + 9) 0) (set1_same _ _))
          unfold setP at this
          rw [if_pos h] at this
          exact this
        · refine b_X11_loses_114 hg St_402 ⟨by omega, S_givesUp hg (by omega) ⟨by omega, ?_⟩⟩
          have := i (up (up ν 402 (3 + 20 * (k : Int) + 7) (-9)) 402 (3 + 20 * (k : Int) + 9) 0) (by omega) hF.s.s (by
            rw [up_row, up_row, h2, loseS_cut h (hu.mp u0)]
            rfl)
          unfold setP at this
          rw [if_pos h] at this
          exact this
      have uncut : ¬ cutB of (missP s c) c k → B_X11_loses_69 G Q n ν c (setP (lostB of (missP s c) c) k) k := fun h => by
        refine b_X11_loses_69 hg (b_X11_loses_70 hg ⟨fun g => absurd rfl g, fun _ => S_hasHopOn hg (by omega) hBv (fun g => ⟨fun _ => ⟨by omega, no (fun l => l.elim h (fun l => g (hhop.mpr l)))⟩, fun g2 => absurd rfl g2⟩) (fun g => ⟨fun g2 => absurd g2 (by decide), fun _ => yes 0 (Or.inr (hhop.mp g)) ⟨fun g2 => absurd rfl g2, fun g2 => absurd g2 h⟩⟩)⟩)
      refine b_X11_loses_16 hg ⟨fun g => absurd g (by rw [h2, loseS_lo _ (by decide), m2]; omega), fun _ => S_its hg (by omega) ⟨fun g => uncut (fun l => g ?_), fun g => S_its hg (by omega) (S_its hg (by omega) ?_)⟩⟩
      · rw [fk 7 (by decide) (by decide)]
        exact l.1
      · have hB1 := hBv.1
        have hB2 := hBv.2.1
        have hB17 := hBv.2.2.2.2.2.2.2.2.2.2.2.2.2.2.2.2 (by rw [g]; omega)
        have hd := tkD_le (of := of) (w := it (ν 402) k 0) (c := c) hB1 hB2 hof.2.2.2.2.2.2.2.2.2.1 hof.2.2.2.2.2.2.2.2.2.2.1
        refine S_ticks hg (by omega) ⟨hB1, hB2⟩ (by rw [v4]; omega) ?_
        rw [v4, v0]
        rw [g, v4] at hB17
        have ec : cutB of (missP s c) c k ↔ ν 402 0 < it (ν 402) k 8 + tkD of (it (ν 402) k 0) c := by
          unfold cutB
          rw [fk 7 (by decide) (by decide)] at g
          rw [v0, fk 8 (by decide) (by decide), fk 0 (by decide) (by decide)]
          exact ⟨fun l => l.2, fun l => ⟨g, l⟩⟩
        rw [v0] at ec
        refine ⟨by omega, fun g2 => uncut (fun l => absurd (ec.mp l) (by omega)), fun g2 => b_X11_loses_70 hg ⟨fun _ => yes 1 (Or.inl (ec.mpr (by omega))) ⟨fun _ => ec.mpr (by omega), fun _ => by decide⟩, fun g3 => absurd g3 (by decide)⟩⟩
  have := key (s 2).toNat 0 (up μ 402 1 (iOr (μ 402 1) (iShl 1 c))) (by omega) FrP.rf.s (by rw [up_row, e2]; rfl)
  exact this
end Acts
