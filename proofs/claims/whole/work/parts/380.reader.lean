-- the class: a text is read
def FrK (μ ν : Mem) : Prop := ∀ r, r ≠ 3 → ν r = μ r
theorem FrK.rf {μ : Mem} : FrK μ μ := fun _ _ => rfl
theorem FrK.tr {μ ν ξ : Mem} (h : FrK μ ν) (h2 : FrK ν ξ) : FrK μ ξ := fun r hr => (h2 r hr).trans (h r hr)
theorem FrK.u {μ ν : Mem} {k v : Int} (h : FrK μ ν) : FrK μ (up ν 3 k v) := fun r hr => (up_ne hr).trans (h r hr)
/-- the text that was typed -/
def TxR (μ : Mem) (L : Int) (x : Int → Int) : Prop := μ 1 1 = L ∧ ∀ k, 0 ≤ k → k < L → μ 2 k = x k
theorem TxR.k {μ ν : Mem} {L : Int} {x : Int → Int} (h : FrK μ ν) (q : TxR μ L x) : TxR ν L x := by
  unfold TxR
  rw [h 1 (by decide), h 2 (by decide)]
  exact q
def badP {α : Type} (r : Int ⊕ α) : Int := match r with
  | .inl q => q
  | .inr _ => -1
theorem tok_val {L lo hi ba p : Int} {x : Int → Int} (hx : TxP L x) (hp : 0 ≤ p ∧ p ≤ L) (hlo : 0 ≤ lo) (hhi : hi ≤ 99) :
    ((deP L x (skP L x p) 0).1 ≠ skP L x p ∧ ¬ (x (skP L x p) = 48 ∧ skP L x p + 1 < (deP L x (skP L x p) 0).1) ∧ (lo ≤ (deP L x (skP L x p) 0).2 ∧ (deP L x (skP L x p) 0).2 ≤ hi) ∧ (deP L x (skP L x p) 0).2 ≠ ba → numP L x lo hi ba p = .inr ((deP L x (skP L x p) 0).2, (deP L x (skP L x p) 0).1)) ∧
    (¬ ((deP L x (skP L x p) 0).1 ≠ skP L x p ∧ ¬ (x (skP L x p) = 48 ∧ skP L x p + 1 < (deP L x (skP L x p) 0).1) ∧ (lo ≤ (deP L x (skP L x p) 0).2 ∧ (deP L x (skP L x p) 0).2 ≤ hi) ∧ (deP L x (skP L x p) 0).2 ≠ ba) → numP L x lo hi ba p = .inl (skP L x p)) := by
  have hs := skP_ge (L := L) (x := x) p
  have hsL := hs.2.1 hp.2
  generalize hq : skP L x p = q at *
  have hd := deP_ge (L := L) (x := x) q 0 hsL (by decide)
  generalize he : (deP L x q 0).1 = e at *
  generalize hv : (deP L x q 0).2 = v at *
  by_cases c0 : digP L x q
  · have hlt := c0.1
    have et : tokP L x q = if v = 100 ∨ (x q = 48 ∧ q + 1 < e) then 2000 else 1000 + v := by
      unfold tokP
      rw [if_neg (by omega), if_pos c0, he, hv]
    have en : nxtP L x q = e := by
      unfold nxtP
      rw [if_neg (by omega), if_pos c0, he]
    constructor
    · rintro ⟨h1, h2, h3, h4⟩
      have et' : tokP L x q = 1000 + v := by rw [et, if_neg]; rintro (z | z); omega; exact h2 z
      unfold numP
      rw [hq, et', en, if_pos ⟨by omega, by omega, by omega⟩, show 1000 + v - 1000 = v by omega]
    · intro hno
      unfold numP
      rw [hq, if_neg]
      rintro ⟨z1, z2, z3⟩
      have := hd.2.2.2.2 c0
      rw [et] at z1 z2 z3
      split at z2
      · omega
      · rename_i hc
        rw [if_neg hc] at z1 z3
        exact hno ⟨by omega, fun z => hc (Or.inr z), ⟨by omega, by omega⟩, by omega⟩
  · have e1 := deP_no (v := 0) c0
    rw [e1] at he hv
    constructor
    · rintro ⟨h1, -⟩
      exact absurd he.symm h1
    · intro _
      unfold numP
      rw [hq, if_neg]
      rintro ⟨z1, -⟩
      unfold tokP at z1
      by_cases c1 : L ≤ q
      · rw [if_pos c1] at z1; omega
      · rw [if_neg c1, if_neg c0] at z1
        have := hx.2.2 q (by omega) (by omega)
        omega
section Reader
variable {G : GT} {n : Nat} {μ : Mem}
theorem C_byteAt (hg : gx G = FX) {Q : Int → Nat → Mem → Prop} {L p : Int} {x : Int → Int} (hL : L ≤ 150) (hT : TxR μ L x) (hp : 0 ≤ p) (q1 : p < L → Q (x p) n μ) (q0 : L ≤ p → Q (-9) n μ) : CI G Y_X9_byteAt [.inr 1, .inl p] n μ Q := by
  refine m_X9_byteAt hg ⟨fun z => absurd z (by omega), fun _ => ?_⟩
  rw [hT.1]
  refine ⟨q0, fun z => ⟨fun _ => ⟨⟨hp, by omega⟩, ?_⟩, fun y => absurd (by omega) y⟩⟩
  rw [hT.2 p hp (by omega)]
  exact q1 (by omega)
theorem C_skip (hg : gx G = FX) {Q : Nat → Mem → Prop} {L : Int} {x : Int → Int} (hx : TxP L x) (hT : TxR μ L x) (hp : 0 ≤ μ 3 2 ∧ μ 3 2 ≤ L) (q : ∀ ν, FrK μ ν → ν 3 2 = skP L x (μ 3 2) → ν 3 3 = μ 3 3 → Q n ν) : CV G Y_X4_skipBlanks [.inr 3] n μ Q := by
  have hL := hx.2.1
  have key : ∀ (d : Nat) (ν : Mem), L - ν 3 2 ≤ d → FrK μ ν → (0 ≤ ν 3 2 ∧ ν 3 2 ≤ L) → skP L x (ν 3 2) = skP L x (μ 3 2) → ν 3 3 = μ 3 3 → B_X4_skipBlanks_0 G Q n ν := by
    intro d
    induction d with
    | zero =>
      intro ν e hF h0 hs h3
      have hT' := hT.k hF
      refine b_X4_skipBlanks_0 hg ⟨fun _ => q ν hF ?_ h3, fun z => absurd (by rw [hT'.1]; omega) z⟩
      rw [← hs, skP_no (by omega)]
    | succ d ih =>
      intro ν e hF h0 hs h3
      have hT' := hT.k hF
      refine b_X4_skipBlanks_0 hg ⟨fun z => q ν hF ?_ h3, fun z => C_byteAt hg hL hT' h0.1 (fun y => ⟨fun w => q ν hF ?_ h3, fun w => ⟨by unfold inR; omega, ih _ ?_ hF.u ?_ ?_ ?_⟩⟩) (fun y => absurd (by rw [hT'.1]; exact y) z)⟩
      · rw [hT'.1] at z
        rw [← hs, skP_no (by omega)]
      · rw [← hs, skP_no (fun v => w v.2)]
      · rw [up_self]; omega
      · rw [up_self]; omega
      · rw [up_self, ← skP_yes y w]; exact hs
      · rw [up_oth (by decide)]; exact h3
  exact m_X4_skipBlanks hg (key (L - μ 3 2).toNat μ (by omega) FrK.rf hp rfl rfl)
theorem C_blame (hg : gx G = FX) {Q : Nat → Mem → Prop} {v : Int} (q : ∀ ν, FrK μ ν → ν 3 2 = μ 3 2 → ν 3 3 = (if μ 3 3 = -1 then v else μ 3 3) → Q n ν) : CV G Y_X4_blame [.inr 3, .inl v] n μ Q :=
  m_X4_blame hg ⟨fun z => q μ FrK.rf rfl (by rw [if_neg z]), fun z => q _ FrK.rf.u (up_oth (by decide)) (by rw [up_self, if_pos z])⟩
theorem C_within (hg : gx G = FX) {Q : Int → Nat → Mem → Prop} {v a b : Int} (q0 : ¬ (a ≤ v ∧ v ≤ b) → Q 0 n μ) (q1 : a ≤ v ∧ v ≤ b → Q 1 n μ) : CI G Y_X10_isWithin [.inl v, .inl a, .inl b] n μ Q :=
  m_X10_isWithin hg ⟨fun c => q0 (by omega), fun c => ⟨fun d => q0 (by omega), fun d => q1 (by omega)⟩⟩
theorem C_readNumber (hg : gx G = FX) {Q : Int → Nat → Mem → Prop} {L lo hi ba : Int} {x : Int → Int} (hx : TxP L x) (hT : TxR μ L x) (hp : 0 ≤ μ 3 2 ∧ μ 3 2 ≤ L) (hlo : 0 ≤ lo) (hhi : hi ≤ 99)
    (q : ∀ ν v, FrK μ ν → (0 ≤ v ∧ v ≤ 100) → (0 ≤ ν 3 2 ∧ ν 3 2 ≤ L) → ν 3 3 = (if μ 3 3 = -1 then badP (numP L x lo hi ba (μ 3 2)) else μ 3 3) → (∀ r, numP L x lo hi ba (μ 3 2) = .inr r → v = r.1 ∧ ν 3 2 = r.2) → Q v n ν) : CI G Y_X4_readNumber [.inr 3, .inl lo, .inl hi, .inl ba] n μ Q := by
  have hL := hx.2.1
  have hnum := tok_val (lo := lo) (hi := hi) (ba := ba) (p := μ 3 2) hx hp hlo hhi
  have hs := skP_ge (L := L) (x := x) (μ 3 2)
  have hsL := hs.2.1 hp.2
  refine m_X4_readNumber hg (C_skip hg hx hT hp (fun ν hF h2 h3 => ?_))
  rw [h2]
  generalize hq : skP L x (μ 3 2) = w at *
  have hd := deP_ge (L := L) (x := x) w 0 hsL (by decide)
  -- behind the figures
  have fin : ∀ ξ : Mem, FrK μ ξ → ξ 3 2 = (deP L x w 0).1 → ξ 3 3 = μ 3 3 → B_X4_readNumber_84 G Q n ξ lo hi ba w (deP L x w 0).2 := by
    intro ξ hFx x2 x3
    have hTx := hT.k hFx
    have bad : ¬ ((deP L x w 0).1 ≠ w ∧ ¬ (x w = 48 ∧ w + 1 < (deP L x w 0).1) ∧ (lo ≤ (deP L x w 0).2 ∧ (deP L x w 0).2 ≤ hi) ∧ (deP L x w 0).2 ≠ ba) → B_X4_readNumber_146 G Q n ξ w (deP L x w 0).2 := by
      intro hno
      have hn := hnum.2 hno
      refine b_X4_readNumber_146 hg (C_blame hg (fun η hFe e2 e3 => q η _ (hFx.tr hFe) ⟨hd.2.2.1, hd.2.2.2.1⟩ (by rw [e2, x2]; omega) ?_ (fun r hr => ?_)))
      · rw [e3, x3, hn]; rfl
      · rw [hn] at hr; cases hr
    have tail : ∀ u, (u = 0 ∨ (x w = 48 ∧ w + 1 < (deP L x w 0).1)) → (u = 0 → ¬ (x w = 48 ∧ w + 1 < (deP L x w 0).1)) → B_X4_readNumber_114 G Q n ξ lo hi ba w (deP L x w 0).2 u := by
      intro u hu1 hu2
      refine b_X4_readNumber_114 hg ⟨fun z => bad (fun y => y.1 (by rw [← x2]; exact z)), fun z => ⟨fun y => bad (fun v => v.2.1 (hu1.resolve_left y)), fun y => C_within hg (fun v => ⟨fun _ => bad (fun t => v t.2.2.1), fun t => absurd rfl t⟩) (fun v => ⟨fun t => absurd t (by decide), fun _ => ⟨fun t => ?_, fun t => bad (fun s => s.2.2.2 t)⟩⟩)⟩⟩
      have hn := hnum.1 ⟨by rw [← x2]; exact z, hu2 y, v, t⟩
      refine q ξ _ hFx ⟨hd.2.2.1, hd.2.2.2.1⟩ (by rw [x2]; omega) ?_ (fun r hr => ?_)
      · rw [hn, x3]
        show _ = if μ 3 3 = -1 then -1 else μ 3 3
        split
        · assumption
        · rfl
      · rw [hn] at hr
        cases hr
        exact ⟨rfl, x2⟩
    refine b_X4_readNumber_84 hg ?_
    rw [x2]
    refine ⟨by unfold inR; omega, fun z => b_X4_readNumber_113 hg (tail 0 (Or.inl rfl) (fun _ y => by omega)), fun z => C_byteAt hg hL hTx (by omega) (fun y => ⟨fun v => b_X4_readNumber_113 hg (tail 0 (Or.inl rfl) (fun _ t => v t.1)), fun v => tail 1 (Or.inr ⟨v, by omega⟩) (fun t => absurd t (by decide))⟩) (fun y => absurd y (by omega))⟩
  have key : ∀ (d : Nat) (p v : Int) (ξ : Mem), L - p ≤ d → w ≤ p → p ≤ L → (0 ≤ v ∧ v ≤ 100) → deP L x p v = deP L x w 0 → FrK μ ξ → ξ 3 2 = p → ξ 3 3 = μ 3 3 → B_X4_readNumber_13 G Q n ξ lo hi ba w v := by
    intro d
    have stop : ∀ (p v : Int) (ξ : Mem), ¬ digP L x p → deP L x p v = deP L x w 0 → FrK μ ξ → ξ 3 2 = p → ξ 3 3 = μ 3 3 → B_X4_readNumber_84 G Q n ξ lo hi ba w v := by
      intro p v ξ hno he hFx x2 x3
      rw [deP_no hno] at he
      have e1 : (deP L x w 0).1 = p := by rw [← he]
      have e2 : (deP L x w 0).2 = v := by rw [← he]
      have := fin ξ hFx (by rw [x2, e1]) x3
      rw [e2] at this
      exact this
    induction d with
    | zero =>
      intro p v ξ e hw hpL hv he hFx x2 x3
      have hTx := hT.k hFx
      refine b_X4_readNumber_13 hg ⟨fun _ => stop p v ξ (fun z => by have := z.1; omega) he hFx x2 x3, fun z => absurd (by rw [hTx.1, x2]; omega) z⟩
    | succ d ih =>
      intro p v ξ e hw hpL hv he hFx x2 x3
      have hTx := hT.k hFx
      refine b_X4_readNumber_13 hg ?_
      rw [hTx.1, x2]
      refine ⟨fun z => stop p v ξ (fun y => by have := y.1; omega) he hFx x2 x3, fun z => C_byteAt hg hL hTx (by omega) (fun y => ?_) (fun y => absurd y z)⟩
      have hb := hx.2.2 p (by omega) y
      have no : ¬ (48 ≤ x p ∧ x p ≤ 57) → ((0 : Int) = 0 → B_X4_readNumber_84 G Q n ξ lo hi ba w v) := fun hno _ => stop p v ξ (fun t => hno t.2) he hFx x2 x3
      refine m_X4_isDigit hg ⟨fun t => ⟨no (by omega), fun u => absurd rfl u⟩, fun t => ⟨fun s => ⟨no (by omega), fun u => absurd rfl u⟩, fun s => ⟨fun u => absurd u (by decide), fun _ => ⟨by unfold inR; omega, ?_⟩⟩⟩⟩
      rw [x2]
      have hdg : digP L x p := ⟨y, by omega, by omega⟩
      refine C_byteAt hg hL hTx (by omega) (fun _ => ⟨by unfold inR; omega, by unfold inR; omega, ?_⟩) (fun u => absurd u z)
      rw [x2]
      refine ⟨by unfold inR; omega, ih (p + 1) _ _ (by omega) (by omega) (by omega) ?_ ?_ hFx.u (up_self _ _ _ _) (by rw [up_oth (by decide)]; exact x3)⟩
      · split <;> omega
      · rw [← deP_yes hdg]; exact he
  exact key (L - w).toNat w 0 ν (by omega) (Int.le_refl _) hsL (by decide) rfl hF h2 h3
theorem C_readSemicolon (hg : gx G = FX) {Q : Nat → Mem → Prop} {L : Int} {x : Int → Int} (hx : TxP L x) (hT : TxR μ L x) (hp : 0 ≤ μ 3 2 ∧ μ 3 2 ≤ L)
    (q : ∀ ν, FrK μ ν → (0 ≤ ν 3 2 ∧ ν 3 2 ≤ L) → ν 3 3 = (if μ 3 3 = -1 then badP (semiP L x (μ 3 2)) else μ 3 3) → (∀ r, semiP L x (μ 3 2) = .inr r → ν 3 2 = r) → Q n ν) : CV G Y_X4_readSemicolon [.inr 3] n μ Q := by
  have hL := hx.2.1
  have hs := skP_ge (L := L) (x := x) (μ 3 2)
  have hsL := hs.2.1 hp.2
  refine m_X4_readSemicolon hg (C_skip hg hx hT hp (fun ν hF h2 h3 => ?_))
  rw [h2]
  have hTx := hT.k hF
  have bad : semiP L x (μ 3 2) = .inl (skP L x (μ 3 2)) → CV G Y_X4_blame [.inr 3, .inl (ν 3 2)] n ν Q := by
    intro hn
    refine C_blame hg (fun η hFe e2 e3 => q η (hF.tr hFe) (by rw [e2, h2]; omega) ?_ (fun r hr => ?_))
    · rw [e3, h3, hn, h2]; rfl
    · rw [hn] at hr; cases hr
  rw [h2] at bad
  refine C_byteAt hg hL hTx (by omega) (fun y => ⟨fun z => ?_, fun z => ?_⟩) (fun y => ⟨fun z => ?_, fun z => absurd z (by decide)⟩)
  · rw [h2]
    refine bad ?_
    unfold semiP
    rw [if_neg (fun v => z v.2)]
  · rw [h2]
    have hn : semiP L x (μ 3 2) = .inr (skP L x (μ 3 2) + 1) := by
      unfold semiP
      rw [if_pos ⟨y, z⟩]
    refine ⟨by unfold inR; omega, q _ hF.u (by rw [up_self]; omega) ?_ (fun r hr => ?_)⟩
    · rw [up_oth (by decide), h3, hn]
      show _ = if μ 3 3 = -1 then -1 else μ 3 3
      split
      · assumption
      · rfl
    · rw [hn] at hr
      cases hr
      exact up_self _ _ _ _
  · rw [h2]
    refine bad ?_
    unfold semiP
    rw [if_neg (fun v => by omega)]
end Reader
section CP
variable {L nd p q p1 p2 p3 p4 p5 p6 a1 a2 a3 a4 a5 a6 : Int} {x : Int → Int}
theorem cP1 (h1 : numP L x 0 (nd - 1) (-1) p = .inl q) : contactP L x nd p = .inl q := by
  unfold contactP; rw [h1]
theorem cP2 (h1 : numP L x 0 (nd - 1) (-1) p = .inr (a1, p1)) (h2 : numP L x 0 (nd - 1) a1 p1 = .inl q) : contactP L x nd p = .inl q := by
  unfold contactP; rw [h1]; simp only; rw [h2]
theorem cP3 (h1 : numP L x 0 (nd - 1) (-1) p = .inr (a1, p1)) (h2 : numP L x 0 (nd - 1) a1 p1 = .inr (a2, p2)) (h3 : numP L x 0 98 (-1) p2 = .inl q) : contactP L x nd p = .inl q := by
  unfold contactP; rw [h1]; simp only; rw [h2]; simp only; rw [h3]
theorem cP4 (h1 : numP L x 0 (nd - 1) (-1) p = .inr (a1, p1)) (h2 : numP L x 0 (nd - 1) a1 p1 = .inr (a2, p2)) (h3 : numP L x 0 98 (-1) p2 = .inr (a3, p3)) (h4 : numP L x (a3 + 1) 99 (-1) p3 = .inl q) : contactP L x nd p = .inl q := by
  unfold contactP; rw [h1]; simp only; rw [h2]; simp only; rw [h3]; simp only; rw [h4]
theorem cP5 (h1 : numP L x 0 (nd - 1) (-1) p = .inr (a1, p1)) (h2 : numP L x 0 (nd - 1) a1 p1 = .inr (a2, p2)) (h3 : numP L x 0 98 (-1) p2 = .inr (a3, p3)) (h4 : numP L x (a3 + 1) 99 (-1) p3 = .inr (a4, p4)) (h5 : numP L x 1 9 (-1) p4 = .inl q) : contactP L x nd p = .inl q := by
  unfold contactP; rw [h1]; simp only; rw [h2]; simp only; rw [h3]; simp only; rw [h4]; simp only; rw [h5]
theorem cP6 (h1 : numP L x 0 (nd - 1) (-1) p = .inr (a1, p1)) (h2 : numP L x 0 (nd - 1) a1 p1 = .inr (a2, p2)) (h3 : numP L x 0 98 (-1) p2 = .inr (a3, p3)) (h4 : numP L x (a3 + 1) 99 (-1) p3 = .inr (a4, p4)) (h5 : numP L x 1 9 (-1) p4 = .inr (a5, p5)) (h6 : numP L x 0 9 (-1) p5 = .inl q) : contactP L x nd p = .inl q := by
  unfold contactP; rw [h1]; simp only; rw [h2]; simp only; rw [h3]; simp only; rw [h4]; simp only; rw [h5]; simp only; rw [h6]
theorem cP7 (h1 : numP L x 0 (nd - 1) (-1) p = .inr (a1, p1)) (h2 : numP L x 0 (nd - 1) a1 p1 = .inr (a2, p2)) (h3 : numP L x 0 98 (-1) p2 = .inr (a3, p3)) (h4 : numP L x (a3 + 1) 99 (-1) p3 = .inr (a4, p4)) (h5 : numP L x 1 9 (-1) p4 = .inr (a5, p5)) (h6 : numP L x 0 9 (-1) p5 = .inr (a6, p6)) : contactP L x nd p = .inr ((a1, a2, a3, a4, a5, a6), p6) := by
  unfold contactP; rw [h1]; simp only; rw [h2]; simp only; rw [h3]; simp only; rw [h4]; simp only; rw [h5]; simp only; rw [h6]
end CP
/-- one number more is read: all has been good, or the fault is known -/
theorem num_step {L lo hi ba p f f' v p' : Int} {x : Int → Int} {ok : Prop} {C : Int → Prop} (hp : 0 ≤ p ∧ p ≤ L) (h : (f = -1 ∧ ok) ∨ (f ≠ -1 ∧ C f)) (hf : f' = (if f = -1 then badP (numP L x lo hi ba p) else f)) (hv : ∀ r, numP L x lo hi ba p = .inr r → v = r.1 ∧ p' = r.2) (hC : ok → ∀ q, numP L x lo hi ba p = .inl q → C q) : (f' = -1 ∧ ok ∧ numP L x lo hi ba p = .inr (v, p')) ∨ (f' ≠ -1 ∧ C f') := by
  rcases h with ⟨h1, h2⟩ | ⟨h1, h2⟩
  · rw [if_pos h1] at hf
    cases hn : numP L x lo hi ba p with
    | inl q =>
      rw [hn] at hf
      have : f' = q := hf
      have hq := numP_q hp hn
      exact Or.inr ⟨by omega, by rw [this]; exact hC h2 q hn⟩
    | inr r =>
      rw [hn] at hf
      obtain ⟨e1, e2⟩ := hv r hn
      exact Or.inl ⟨hf, h2, by rw [e1, e2]⟩
  · rw [if_neg h1] at hf
    exact Or.inr ⟨by rw [hf]; exact h1, by rw [hf]; exact h2⟩
