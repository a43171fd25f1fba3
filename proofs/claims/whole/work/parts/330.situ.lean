-- the class: situations, their questions
def bc1 (v : Int) : Int := v - iAnd (iUshr v 1) 1431655765
def bc2 (v : Int) : Int := iAnd (bc1 v) 858993459 + iAnd (iUshr (bc1 v) 2) 858993459
def bc3 (v : Int) : Int := bc2 v + iUshr (bc2 v) 4
def bc4 (v : Int) : Int := iAnd (bc3 v) 252645135 + iUshr (iAnd (bc3 v) 252645135) 8
def bc5 (v : Int) : Int := bc4 v + iUshr (bc4 v) 16
def bcI (v : Int) : Bool := decide (-2147483648 ≤ v) && decide (v < 2147483648)
def cntB (x : Nat) : Nat → Nat
  | 0 => 0
  | k + 1 => cntB x k + (if Nat.testBit x k then 1 else 0)
theorem bc_all : (List.range 256).all (fun x => bcI (bc1 (x : Nat)) && bcI (bc2 (x : Nat)) && bcI (bc3 (x : Nat)) && bcI (bc4 (x : Nat)) && bcI (bc5 (x : Nat)) && decide (iAnd (bc5 (x : Nat)) 63 = (cntB x 8 : Nat))) = true := by decide +kernel
theorem bcI_in {v : Int} (h : bcI v = true) : inR v := by
  unfold bcI at h
  simp only [Bool.and_eq_true, decide_eq_true_eq] at h
  exact ⟨h.1, by omega⟩
theorem cntB_is {x : Nat} (hx : x < 256) : ∀ k : Nat, k ≤ 8 → cntB x k = cntP (fun j => msB x j) k := by
  intro k
  induction k with
  | zero => intro _; rfl
  | succ k ih =>
    intro hk
    show cntB x k + _ = cntP _ k + _
    rw [ih (by omega)]
    congr 1
    have h := (bit_at hx (show k < 8 by omega)).2.2
    by_cases c : Nat.testBit x k = true
    · rw [if_pos c, if_pos (h.mpr c)]
    · rw [if_neg c, if_neg (fun q => c (h.mp q))]
theorem cntP_cong {p r : Int → Prop} : ∀ k : Nat, (∀ j : Int, 0 ≤ j → j < k → (p j ↔ r j)) → cntP p k = cntP r k := by
  intro k
  induction k with
  | zero => intro _; rfl
  | succ k ih =>
    intro h
    show cntP p k + _ = cntP r k + _
    rw [ih (fun j j0 j1 => h j j0 (by omega))]
    congr 1
    have := h k (by omega) (by omega)
    by_cases c : p k
    · rw [if_pos c, if_pos (this.mp c)]
    · rw [if_neg c, if_neg (fun q => c (this.mpr q))]
theorem cntP_out {p : Int → Prop} {m : Nat} : ∀ d : Nat, (∀ j : Int, m ≤ j → ¬ p j) → cntP p (m + d) = cntP p m := by
  intro d
  induction d with
  | zero => intro _; rfl
  | succ d ih =>
    intro h
    show cntP p (m + d) + @ite _ (p ((m + d : Nat) : Int)) (Classical.propDecidable _) 1 0 = _
    rw [ih h, if_neg (h _ (show (m : Int) ≤ ((m + d : Nat) : Int) by omega))]
    rfl
theorem countP_is (of s : Int → Int) (st : Int) : ∀ k : Nat, countP of s st k = (cntP (fun j => stateP of s j = st) k : Nat) := by
  intro k
  induction k with
  | zero => rfl
  | succ k ih =>
    show countP of s st k + _ = ((cntP _ k + _ : Nat) : Int)
    rw [ih]
    by_cases c : stateP of s k = st
    · rw [if_pos c, if_pos c]; omega
    · rw [if_neg c, if_neg c]; omega
theorem count_set {of s : Int → Int} {st : Int} {m : Nat} (hm : m ≤ 8) : ∃ x : Nat, x < 256 ∧ setP (fun b => stateP of s b = st) m = (x : Nat) ∧ ((cntB x 8 : Nat) : Int) = countP of s st m := by
  have hst := setP_st (fun b => stateP of s b = st) hm
  obtain ⟨x, hx⟩ := Int.eq_ofNat_of_zero_le hst.1
  have hx8 : x < 256 := by have := hst.2; omega
  refine ⟨x, hx8, hx, ?_⟩
  rw [cntB_is hx8 8 (by decide), countP_is]
  have h1 : cntP (fun j => msB (x : Nat) j) 8 = cntP (fun j => j < m ∧ stateP of s j = st) 8 := cntP_cong 8 (fun j j0 j1 => by
    have := setP_ms (p := fun b => stateP of s b = st) hm (j := j) ⟨j0, by omega⟩
    rw [hx] at this
    exact this)
  have h2 : cntP (fun j => j < m ∧ stateP of s j = st) 8 = cntP (fun j => j < m ∧ stateP of s j = st) m := by
    have := cntP_out (p := fun j => j < m ∧ stateP of s j = st) (m := m) (8 - m) (fun j hj q => by omega)
    rw [show m + (8 - m) = 8 by omega] at this
    exact this
  have h3 : cntP (fun j => j < m ∧ stateP of s j = st) m = cntP (fun j => stateP of s j = st) m := cntP_cong m (fun j j0 j1 => ⟨fun q => q.2, fun q => ⟨j1, q⟩⟩)
  rw [h1, h2, h3]
theorem BRel_keep {μ ν : Mem} {b v : Int} {of s : Int → Int} (h : ∀ r, v ≤ r → r < v + 3 → ν r = μ r) (hb : BRel of s μ b v) : BRel of s ν b v := by
  unfold BRel
  rw [h v (by omega) (by omega), h (v + 1) (by omega) (by omega), h (v + 1 + 1) (by omega) (by omega)]
  exact hb
theorem BRel_eq {μ : Mem} {nd cn b v : Int} {of s s' : Int → Int} (e : EqB s s' b) (hr : BR nd cn of s b) (hb : BRel of s μ b v) : BRel of s' μ b v := by
  have hh := e.h hr
  have h90 := hr.2.2.2.2.2.2.2.2.2.2.2.2.2.1
  have eo : onP s' b = onP s b := by unfold onP; rw [e 7 (by decide) (by decide) (by decide)]
  have e9 := e 9 (by decide) (by decide) (by decide)
  have eN : rwN s' b = rwN s b := by unfold rwN; rw [eo, e9]
  refine BRel_rows hb hr (Or.inl rfl) (fun w w0 w1 _ => e w w0 (by omega) (by omega)) (by rw [e 4 (by decide) (by decide) (by decide)]; exact hb.1) rfl rfl rfl rfl rfl 0 (by decide) (by omega) (by rw [eN]; exact hb.2.2.2.2.2.2.1) (fun i i0 i1 => ?_) (fun j _ _ => by rw [show j + 4 * 0 = j by omega])
  rw [Int.add_zero]
  rw [eN] at i1
  unfold rwN at i1
  rcases onP_in s b with ⟨h7, eo'⟩ | ⟨h7, eo'⟩
  · have h7' : it s' b 7 = -9 := by rw [e 7 (by decide) (by decide) (by decide)]; exact h7
    rw [(row_off h7' i).1, (row_off h7' i).2, (row_off h7 i).1, (row_off h7 i).2]
    exact hh.1 i i0 (by omega)
  · have h7' : it s' b 7 ≠ -9 := by rw [e 7 (by decide) (by decide) (by decide)]; exact h7
    by_cases ei : i = 0
    · rw [ei, (row_on h7').1, (row_on h7').2.1, (row_on h7).1, (row_on h7).2.1]
      exact ⟨e 7 (by decide) (by decide) (by decide), e 8 (by decide) (by decide) (by decide)⟩
    · rw [((row_on h7').2.2 i (by omega)).1, ((row_on h7').2.2 i (by omega)).2, ((row_on h7).2.2 i (by omega)).1, ((row_on h7).2.2 i (by omega)).2]
      exact hh.1 (i - 1) (by omega) (by omega)
