-- the text: blanks, figures, tokens
def digP (L : Int) (x : Int → Int) (p : Int) : Prop := p < L ∧ 48 ≤ x p ∧ x p ≤ 57
noncomputable def skN (L : Int) (x : Int → Int) : Nat → Int → Int
  | 0, p => p
  | k + 1, p => if p < L ∧ x p = 32 then skN L x k (p + 1) else p
noncomputable def skP (L : Int) (x : Int → Int) (p : Int) : Int := skN L x (L - p).toNat p
theorem skN_more {L : Int} {x : Int → Int} : ∀ (k : Nat) (p : Int), L - p ≤ k → skN L x k p = skP L x p := by
  intro k
  induction k with
  | zero =>
    intro p h
    unfold skP
    rw [show (L - p).toNat = 0 by omega]
  | succ k ih =>
    intro p h
    unfold skP
    by_cases c : p < L
    · rw [show (L - p).toNat = (L - (p + 1)).toNat + 1 by omega]
      unfold skN
      by_cases d : p < L ∧ x p = 32
      · rw [if_pos d, if_pos d]
        exact ih (p + 1) (by omega)
      · rw [if_neg d, if_neg d]
    · rw [show (L - p).toNat = 0 by omega]
      unfold skN
      rw [if_neg (fun q => c q.1)]
theorem skP_yes {L : Int} {x : Int → Int} {p : Int} (h : p < L) (h2 : x p = 32) : skP L x p = skP L x (p + 1) := by
  rw [← skN_more (L - p).toNat p (by omega), show (L - p).toNat = (L - (p + 1)).toNat + 1 by omega]
  exact (if_pos ⟨h, h2⟩).trans (skN_more _ _ (by omega))
theorem skP_no {L : Int} {x : Int → Int} {p : Int} (h : ¬ (p < L ∧ x p = 32)) : skP L x p = p := by
  rw [← skN_more ((L - p).toNat + 1) p (by omega)]
  exact if_neg h
theorem skP_ge {L : Int} {x : Int → Int} (p : Int) : p ≤ skP L x p ∧ (p ≤ L → skP L x p ≤ L) ∧ ¬ (skP L x p < L ∧ x (skP L x p) = 32) := by
  have key : ∀ (k : Nat) (p : Int), L - p ≤ k → p ≤ skP L x p ∧ (p ≤ L → skP L x p ≤ L) ∧ ¬ (skP L x p < L ∧ x (skP L x p) = 32) := by
    intro k
    induction k with
    | zero =>
      intro p h
      rw [skP_no (by omega)]
      exact ⟨Int.le_refl _, fun q => q, by omega⟩
    | succ k ih =>
      intro p h
      by_cases d : p < L ∧ x p = 32
      · rw [skP_yes d.1 d.2]
        have := ih (p + 1) (by omega)
        exact ⟨by omega, fun _ => this.2.1 (by omega), this.2.2⟩
      · rw [skP_no d]
        exact ⟨Int.le_refl _, fun q => q, d⟩
  exact key (L - p).toNat p (by omega)
/-- where the figures end, and what they are worth, at most 100 -/
noncomputable def deN (L : Int) (x : Int → Int) : Nat → Int → Int → Int × Int
  | 0, p, v => (p, v)
  | k + 1, p, v => @ite _ (digP L x p) (Classical.propDecidable _) (deN L x k (p + 1) (if 100 < v * 10 + x p - 48 then 100 else v * 10 + x p - 48)) (p, v)
noncomputable def deP (L : Int) (x : Int → Int) (p v : Int) : Int × Int := deN L x (L - p).toNat p v
theorem deN_more {L : Int} {x : Int → Int} : ∀ (k : Nat) (p v : Int), L - p ≤ k → deN L x k p v = deP L x p v := by
  intro k
  induction k with
  | zero =>
    intro p v h
    unfold deP
    rw [show (L - p).toNat = 0 by omega]
  | succ k ih =>
    intro p v h
    unfold deP
    by_cases c : p < L
    · rw [show (L - p).toNat = (L - (p + 1)).toNat + 1 by omega]
      unfold deN
      by_cases d : digP L x p
      · rw [if_pos d, if_pos d]
        exact ih (p + 1) _ (by omega)
      · rw [if_neg d, if_neg d]
    · rw [show (L - p).toNat = 0 by omega]
      unfold deN
      rw [if_neg (fun q => c q.1)]
theorem deP_yes {L : Int} {x : Int → Int} {p v : Int} (h : digP L x p) : deP L x p v = deP L x (p + 1) (if 100 < v * 10 + x p - 48 then 100 else v * 10 + x p - 48) := by
  have := h.1
  rw [← deN_more (L - p).toNat p v (by omega), show (L - p).toNat = (L - (p + 1)).toNat + 1 by omega]
  exact (if_pos h).trans (deN_more _ _ _ (by omega))
theorem deP_no {L : Int} {x : Int → Int} {p v : Int} (h : ¬ digP L x p) : deP L x p v = (p, v) := by
  rw [← deN_more ((L - p).toNat + 1) p v (by omega)]
  exact if_neg h
theorem deP_ge {L : Int} {x : Int → Int} (p v : Int) (hp : p ≤ L) (hv : 0 ≤ v ∧ v ≤ 100) : p ≤ (deP L x p v).1 ∧ (deP L x p v).1 ≤ L ∧ 0 ≤ (deP L x p v).2 ∧ (deP L x p v).2 ≤ 100 ∧ (digP L x p → p < (deP L x p v).1) := by
  have key : ∀ (k : Nat) (p v : Int), L - p ≤ k → p ≤ L → (0 ≤ v ∧ v ≤ 100) → p ≤ (deP L x p v).1 ∧ (deP L x p v).1 ≤ L ∧ 0 ≤ (deP L x p v).2 ∧ (deP L x p v).2 ≤ 100 ∧ (digP L x p → p < (deP L x p v).1) := by
    intro k
    induction k with
    | zero =>
      intro p v h hp hv
      have c : ¬ digP L x p := fun q => by have := q.1; omega
      rw [deP_no c]
      exact ⟨Int.le_refl _, hp, hv.1, hv.2, fun q => absurd q c⟩
    | succ k ih =>
      intro p v h hp hv
      by_cases d : digP L x p
      · rw [deP_yes d]
        have hd := d
        unfold digP at hd
        have := ih (p + 1) (if 100 < v * 10 + x p - 48 then 100 else v * 10 + x p - 48) (by omega) (by omega) (by split <;> omega)
        exact ⟨by omega, this.2.1, this.2.2.1, this.2.2.2.1, fun _ => by omega⟩
      · rw [deP_no d]
        exact ⟨Int.le_refl _, hp, hv.1, hv.2, fun q => absurd q d⟩
  exact key (L - p).toNat p v (by omega) hp hv
/-- the token at a place that is no blank -/
noncomputable def tokP (L : Int) (x : Int → Int) (q : Int) : Int :=
  if L ≤ q then -1 else @ite _ (digP L x q) (Classical.propDecidable _) (if (deP L x q 0).2 = 100 ∨ (x q = 48 ∧ q + 1 < (deP L x q 0).1) then 2000 else 1000 + (deP L x q 0).2) (x q)
noncomputable def nxtP (L : Int) (x : Int → Int) (q : Int) : Int :=
  if L ≤ q then q else @ite _ (digP L x q) (Classical.propDecidable _) (deP L x q 0).1 (q + 1)
/-- bytes are bytes -/
def TxP (L : Int) (x : Int → Int) : Prop := 0 ≤ L ∧ L ≤ 150 ∧ ∀ k, 0 ≤ k → k < L → 0 ≤ x k ∧ x k ≤ 255
theorem nxtP_in {L : Int} {x : Int → Int} {q : Int} (h : q ≤ L) : q ≤ nxtP L x q ∧ nxtP L x q ≤ L ∧ (q < L → q < nxtP L x q) := by
  unfold nxtP
  split
  · exact ⟨Int.le_refl _, h, by omega⟩
  · split
    · rename_i d
      have := deP_ge (L := L) (x := x) q 0 h (by decide)
      have := this.2.2.2.2 d
      omega
    · omega
theorem tokP_in {L : Int} {x : Int → Int} {q : Int} (hx : TxP L x) (h0 : 0 ≤ q) (h : q ≤ L) : -1 ≤ tokP L x q ∧ tokP L x q ≤ 2000 ∧ (tokP L x q = -1 ↔ L ≤ q) := by
  unfold tokP
  split
  · rename_i c
    exact ⟨by omega, by omega, fun _ => c, fun _ => rfl⟩
  · rename_i c
    split
    · have := deP_ge (L := L) (x := x) q 0 h (by decide)
      split
      · omega
      · omega
    · have := hx.2.2 q h0 (by omega)
      omega
/-- the rows that reading may change -/
def FrT (μ ν : Mem) : Prop := (∀ a, a ≠ 399 → ν a = μ a) ∧ ∀ k, k ≠ 19 → k ≠ 20 → k ≠ 21 → ν 399 k = μ 399 k
theorem FrT.up {μ ν : Mem} {k v : Int} (h : FrT μ ν) (hk : k = 19 ∨ k = 20 ∨ k = 21) : FrT μ (up ν 399 k v) := ⟨fun a a1 => by rw [up_ne a1]; exact h.1 a a1, fun j j0 j1 j2 => by rw [up_oth (by omega)]; exact h.2 j j0 j1 j2⟩
theorem FrT.rf {μ : Mem} : FrT μ μ := ⟨fun _ _ => rfl, fun _ _ _ _ => rfl⟩
theorem FrT.tr {μ ν ξ : Mem} (h : FrT μ ν) (h2 : FrT ν ξ) : FrT μ ξ := ⟨fun a a1 => (h2.1 a a1).trans (h.1 a a1), fun k k0 k1 k2 => (h2.2 k k0 k1 k2).trans (h.2 k k0 k1 k2)⟩
theorem FrT.r {μ ν : Mem} (h : FrT μ ν) : ν 410 = μ 410 ∧ ν 399 17 = μ 399 17 ∧ ν 401 = μ 401 ∧ ν 399 4 = μ 399 4 ∧ ν 399 5 = μ 399 5 := ⟨h.1 410 (by decide), h.2 17 (by decide) (by decide) (by decide), h.1 401 (by decide), h.2 4 (by decide) (by decide) (by decide), h.2 5 (by decide) (by decide) (by decide)⟩
section Words
variable {G : GT} {n : Nat} {μ : Mem}
theorem S_isFigure (hg : gx G = FX) {Q : Int → Nat → Mem → Prop} {k : Int} (hL : μ 399 17 ≤ 150) (hk : 0 ≤ k) (q0 : ¬ digP (μ 399 17) (μ 410) k → Q 0 n μ) (q1 : digP (μ 399 17) (μ 410) k → Q 1 n μ) : CI G Y_X11_isFigure [.inr 399, .inl k] n μ Q := by
  refine m_X11_isFigure hg ⟨fun z => q0 (fun h => by have := h.1; omega), fun z => ⟨by omega, S_in hg (fun y => ⟨fun _ => q0 (fun h => y h.2), fun w => absurd rfl w⟩) (fun y => ⟨fun w => absurd w (by decide), fun _ => q1 ⟨by omega, y⟩⟩)⟩⟩
theorem S_takes (hg : gx G = FX) {Q : Nat → Mem → Prop} {L : Int} {x : Int → Int} (hx : TxP L x) (eL : μ 399 17 = L) (ex : μ 410 = x) (hp : 0 ≤ μ 399 19 ∧ μ 399 19 ≤ L)
    (q : ∀ ν, FrT μ ν → ν 399 20 = skP L x (μ 399 19) → ν 399 21 = tokP L x (skP L x (μ 399 19)) → ν 399 19 = nxtP L x (skP L x (μ 399 19)) → Q n ν) : CV G Y_X11_takes [.inr 399] n μ Q := by
  have hL := hx.2.1
  generalize hs : skP L x (μ 399 19) = s at q
  have hsL : 0 ≤ s ∧ s ≤ L := by
    have := skP_ge (L := L) (x := x) (μ 399 19)
    have := this.2.1 hp.2
    omega
  -- the figures
  have figs : ∀ (d : Nat) (p v cv : Int) (ν : Mem), p + d = L → digP L x s → s ≤ p → FrT μ ν → ν 399 19 = p → ν 399 20 = s → 0 ≤ v → v ≤ 999 → (v ≤ 99 → cv = v) → (99 < v → cv = 100) → deP L x s 0 = deP L x p cv → B_X11_takes_113 G Q n ν v := by
    intro d
    induction d with
    | zero =>
      intro p v cv ν e hd0 hsp hF h19 h20 v0 v1 c1 c2 hde
      obtain ⟨f10, f17, -⟩ := hF.r
      have hnd : ¬ digP L x p := fun q => by have := q.1; omega
      rw [deP_no hnd] at hde
      refine b_X11_takes_113 hg (S_isFigure hg (by rw [f17]; omega) (by omega) (fun z => ⟨fun _ => ?_, fun w => absurd rfl w⟩) (fun z => absurd (by rw [f17, f10, eL, ex, h19] at z; exact z) hnd))
      have hd1 := hd0.1
      have enx : nxtP L x s = p := by
        unfold nxtP
        rw [if_neg (by omega), if_pos hd0, hde]
      have etk : tokP L x s = if cv = 100 ∨ (x s = 48 ∧ s + 1 < p) then 2000 else 1000 + cv := by
        unfold tokP
        rw [if_neg (by omega), if_pos hd0, hde]
      have fin : ∀ u, u = tokP L x s → Q n (up ν 399 21 u) := fun u hu => q _ (hF.up (Or.inr (Or.inr rfl))) (by rw [up_oth (by decide), h20]) (by rw [up_self, hu]) (by rw [up_oth (by decide), h19, enx])
      refine ⟨fun z => b_X11_takes_199 hg St_399 (fin _ ?_), fun z => ⟨by omega, fun y => ⟨by omega, fin _ ?_⟩, fun y => ⟨by omega, fun w => ⟨by omega, fin _ ?_⟩, fun w => b_X11_takes_199 hg St_399 (fin _ ?_)⟩⟩⟩
      · rw [etk, if_pos (Or.inl (c2 z))]
      · rw [f10, ex, h20] at y
        rw [etk, if_neg (by have := c1 (by omega); omega), c1 (by omega)]
      · rw [h19, h20] at w
        rw [etk, if_neg (by have := c1 (by omega); omega), c1 (by omega)]
      · rw [f10, ex, h20] at y
        rw [h19, h20] at w
        rw [etk, if_pos (Or.inr ⟨y, by omega⟩)]
    | succ d ih =>
      intro p v cv ν e hd0 hsp hF h19 h20 v0 v1 c1 c2 hde
      obtain ⟨f10, f17, -⟩ := hF.r
      have hd1 := hd0.1
      by_cases hnd : digP L x p
      · rw [deP_yes hnd] at hde
        have hpx := hnd
        unfold digP at hpx
        refine b_X11_takes_113 hg (S_isFigure hg (by rw [f17]; omega) (by omega) (fun z => absurd (by rw [f17, f10, eL, ex, h19]; exact hnd) z) (fun z => ⟨fun w => absurd w (by decide), fun _ => ⟨fun y => ⟨by omega, by omega, ?_⟩, fun y => ?_⟩⟩))
        · rw [f10, ex, h19]
          have ecv := c1 y
          refine ⟨by omega, by omega, b_X11_takes_151 hg ⟨by omega, ?_⟩⟩
          refine ih (p + 1) _ _ _ (by omega) hd0 (by omega) (hF.up (Or.inl rfl)) (by rw [up_self, h19]) (by rw [up_oth (by decide), h20]) (by omega) (by omega) ?_ ?_ hde
          · intro w; rw [if_neg (by omega)]; omega
          · intro w; rw [ecv]; split <;> omega
        · have ecv := c2 (by omega)
          refine b_X11_takes_151 hg ⟨by omega, ?_⟩
          refine ih (p + 1) v _ _ (by omega) hd0 (by omega) (hF.up (Or.inl rfl)) (by rw [up_self, h19]) (by rw [up_oth (by decide), h20]) (by omega) (by omega) ?_ ?_ hde
          · intro w; omega
          · intro w; rw [if_pos (by omega)]
      · rw [deP_no hnd] at hde
        refine b_X11_takes_113 hg (S_isFigure hg (by rw [f17]; omega) (by omega) (fun z => ⟨fun _ => ?_, fun w => absurd rfl w⟩) (fun z => absurd (by rw [f17, f10, eL, ex, h19] at z; exact z) hnd))
        have enx : nxtP L x s = p := by
          unfold nxtP
          rw [if_neg (by omega), if_pos hd0, hde]
        have etk : tokP L x s = if cv = 100 ∨ (x s = 48 ∧ s + 1 < p) then 2000 else 1000 + cv := by
          unfold tokP
          rw [if_neg (by omega), if_pos hd0, hde]
        have fin : ∀ u, u = tokP L x s → Q n (up ν 399 21 u) := fun u hu => q _ (hF.up (Or.inr (Or.inr rfl))) (by rw [up_oth (by decide), h20]) (by rw [up_self, hu]) (by rw [up_oth (by decide), h19, enx])
        refine ⟨fun z => b_X11_takes_199 hg St_399 (fin _ ?_), fun z => ⟨by omega, fun y => ⟨by omega, fin _ ?_⟩, fun y => ⟨by omega, fun w => ⟨by omega, fin _ ?_⟩, fun w => b_X11_takes_199 hg St_399 (fin _ ?_)⟩⟩⟩
        · rw [etk, if_pos (Or.inl (c2 z))]
        · rw [f10, ex, h20] at y
          rw [etk, if_neg (by have := c1 (by omega); omega), c1 (by omega)]
        · rw [h19, h20] at w
          rw [etk, if_neg (by have := c1 (by omega); omega), c1 (by omega)]
        · rw [f10, ex, h20] at y
          rw [h19, h20] at w
          rw [etk, if_pos (Or.inr ⟨y, by omega⟩)]
  -- behind the blanks
  have tok : ∀ (ν : Mem) (u : Int), FrT μ ν → ν 399 19 = s → ν 399 20 = s → u = (if L ≤ s then -1 else x s) → B_X11_takes_71 G Q n ν u 399 := by
    intro ν u hF h19 h20 hu
    have hF2 : FrT μ (up ν 399 21 u) := hF.up (Or.inr (Or.inr rfl))
    have g19 : (up ν 399 21 u) 399 19 = s := by rw [up_oth (by decide), h19]
    have g20 : (up ν 399 21 u) 399 20 = s := by rw [up_oth (by decide), h20]
    have g21 : (up ν 399 21 u) 399 21 = u := up_self _ _ _ _
    refine b_X11_takes_71 hg St_399 ?_
    generalize up ν 399 21 u = ξ at *
    obtain ⟨f10, f17, -⟩ := hF2.r
    refine S_isFigure hg (by rw [f17]; omega) (by omega) (fun z => ⟨fun w => absurd rfl w, fun _ => ?_⟩) (fun z => ⟨fun _ => ?_, fun w => absurd w (by decide)⟩)
    · rw [f17, f10, eL, ex, g19] at z
      rw [f17, eL, g19]
      refine ⟨fun w => ⟨by omega, q _ (hF2.up (Or.inl rfl)) (by rw [up_oth (by decide), g20]) ?_ ?_⟩, fun w => ⟨by omega, q _ (hF2.up (Or.inl rfl)) (by rw [up_oth (by decide), g20]) ?_ ?_⟩⟩
      · rw [up_oth (by decide), g21, hu]
        unfold tokP
        rw [if_pos w, if_pos w]
      · rw [up_self]
        unfold nxtP
        rw [if_pos w]
        omega
      · rw [up_oth (by decide), g21, hu]
        unfold tokP
        rw [if_neg w, if_neg w, if_neg z]
      · rw [up_self]
        unfold nxtP
        rw [if_neg w, if_neg z]
    · rw [f17, f10, eL, ex, g19] at z
      exact figs (L - s).toNat s 0 0 ξ (by omega) z (by omega) hF2 g19 g20 (by decide) (by decide) (fun _ => rfl) (fun w => absurd w (by decide)) rfl
  have stop : ∀ (ν : Mem), FrT μ ν → ν 399 19 = s → B_X11_takes_38 G Q n ν := by
    intro ν hF h19
    have hF2 : FrT μ (up ν 399 20 (ν 399 19)) := hF.up (Or.inr (Or.inl rfl))
    have g19 : (up ν 399 20 (ν 399 19)) 399 19 = s := by rw [up_oth (by decide), h19]
    have g20 : (up ν 399 20 (ν 399 19)) 399 20 = s := by rw [up_self, h19]
    refine b_X11_takes_38 hg ?_
    generalize up ν 399 20 (ν 399 19) = ξ at *
    obtain ⟨f10, f17, -⟩ := hF2.r
    rw [f17, eL, g19]
    refine ⟨fun z => tok ξ _ hF2 g19 g20 (by rw [if_pos z]), fun z => ⟨by omega, tok ξ _ hF2 g19 g20 (by rw [if_neg z, f10, ex])⟩⟩
  have loop : ∀ (d : Nat) (p : Int) (ν : Mem), p + d = L → 0 ≤ p → FrT μ ν → ν 399 19 = p → skP L x p = s → B_X11_takes_0 G Q n ν := by
    intro d
    induction d with
    | zero =>
      intro p ν e p0 hF h19 hsk
      obtain ⟨f10, f17, -⟩ := hF.r
      rw [skP_no (by omega)] at hsk
      exact b_X11_takes_0 hg ⟨fun _ => stop ν hF (by omega), fun z => absurd (by omega) z⟩
    | succ d ih =>
      intro p ν e p0 hF h19 hsk
      obtain ⟨f10, f17, -⟩ := hF.r
      refine b_X11_takes_0 hg ⟨fun z => absurd z (by omega), fun _ => ⟨by omega, fun z => ?_, fun z => ⟨by omega, ?_⟩⟩⟩
      · rw [h19, f10, ex] at z
        rw [skP_no (fun q => z q.2)] at hsk
        exact stop ν hF (by omega)
      · rw [h19, f10, ex] at z
        rw [skP_yes (by omega) z] at hsk
        exact ih (p + 1) _ (by omega) (by omega) (hF.up (Or.inl rfl)) (by rw [up_self, h19]) hsk
  exact m_X11_takes hg (loop (L - μ 399 19).toNat (μ 399 19) μ (by omega) hp.1 FrT.rf rfl hs)
end Words
