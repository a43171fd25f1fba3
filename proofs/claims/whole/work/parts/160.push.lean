-- bits; the model: who is pushed out
theorem bit_all : (List.range 256).all (fun x => (List.range 8).all (fun k => decide (iShl 1 (k : Nat) = ((2 ^ k : Nat) : Int)) && decide (iAnd (x : Nat) (iXor (iShl 1 (k : Nat)) (-1)) = ((x &&& (255 - 2 ^ k) : Nat) : Int)) && (decide (iAnd (iShr (x : Nat) (k : Nat)) 1 = 1) == Nat.testBit x k))) = true := by decide +kernel
theorem bit_at {x k : Nat} (hx : x < 256) (hk : k < 8) : iShl 1 k = ((2 ^ k : Nat) : Int) ∧ iAnd x (iXor (iShl 1 k) (-1)) = ((x &&& (255 - 2 ^ k) : Nat) : Int) ∧ (msB x k ↔ Nat.testBit x k = true) := by
  have h := List.all_eq_true.mp (List.all_eq_true.mp bit_all x (List.mem_range.mpr hx)) k (List.mem_range.mpr hk)
  simp only [Bool.and_eq_true, decide_eq_true_eq, beq_iff_eq] at h
  refine ⟨h.1.1, h.1.2, ?_⟩
  unfold msB
  rw [← h.2]
  simp
theorem iOr_nat {a b : Nat} (ha : a < 256) (hb : b < 256) : iOr a b = ((a ||| b : Nat) : Int) := by
  unfold iOr
  have e : I (a : Int) ||| I (b : Int) = I ((a ||| b : Nat) : Int) := by
    apply Int32.toBitVec.inj
    have e1 : ∀ n : Nat, (I (n : Int)).toBitVec = BitVec.ofNat 32 n := fun n => rfl
    rw [Int32.toBitVec_or, e1, e1, e1]
    apply BitVec.eq_of_toNat_eq
    rw [BitVec.toNat_or, BitVec.toNat_ofNat, BitVec.toNat_ofNat, BitVec.toNat_ofNat, Nat.mod_eq_of_lt (by omega), Nat.mod_eq_of_lt (by omega), Nat.mod_eq_of_lt]
    have := Nat.or_lt_two_pow (x := a) (y := b) (n := 8) (by omega) (by omega)
    omega
  have h := Nat.or_lt_two_pow (x := a) (y := b) (n := 8) (by omega) (by omega)
  rw [e, I_toInt ⟨by omega, by omega⟩]
def st8 (x : Int) : Prop := 0 ≤ x ∧ x < 256
theorem iOr_st {x y : Int} (hx : st8 x) (hy : st8 y) : st8 (iOr x y) := by
  obtain ⟨a, rfl⟩ := Int.eq_ofNat_of_zero_le hx.1
  obtain ⟨b, rfl⟩ := Int.eq_ofNat_of_zero_le hy.1
  have ha : a < 256 := by have := hx.2; omega
  have hb : b < 256 := by have := hy.2; omega
  have h := Nat.or_lt_two_pow (x := a) (y := b) (n := 8) (by omega) (by omega)
  rw [iOr_nat ha hb]
  exact ⟨by omega, by omega⟩
theorem ms_or {x y j : Int} (hx : st8 x) (hy : st8 y) (hj : 0 ≤ j ∧ j < 8) : msB (iOr x y) j ↔ msB x j ∨ msB y j := by
  obtain ⟨a, rfl⟩ := Int.eq_ofNat_of_zero_le hx.1
  obtain ⟨b, rfl⟩ := Int.eq_ofNat_of_zero_le hy.1
  obtain ⟨k, rfl⟩ := Int.eq_ofNat_of_zero_le hj.1
  have ha : a < 256 := by have := hx.2; omega
  have hb : b < 256 := by have := hy.2; omega
  have hk : k < 8 := by have := hj.2; omega
  have h := Nat.or_lt_two_pow (x := a) (y := b) (n := 8) (by omega) (by omega)
  rw [iOr_nat ha hb, (bit_at (by omega) hk).2.2, (bit_at ha hk).2.2, (bit_at hb hk).2.2, Nat.testBit_or]
  simp
theorem shl_st {k : Int} (hk : 0 ≤ k ∧ k < 8) : st8 (iShl 1 k) := by
  obtain ⟨k, rfl⟩ := Int.eq_ofNat_of_zero_le hk.1
  have hk : k < 8 := by have := hk.2; omega
  rw [(bit_at (x := 0) (by omega) hk).1]
  have : 2 ^ k < 2 ^ 8 := Nat.pow_lt_pow_right (by omega) hk
  have h : ((2 ^ k : Nat) : Int) < ((256 : Nat) : Int) := Int.ofNat_lt.mpr this
  exact ⟨Int.natCast_nonneg _, h⟩
theorem ms_shl {k j : Int} (hk : 0 ≤ k ∧ k < 8) (hj : 0 ≤ j ∧ j < 8) : msB (iShl 1 k) j ↔ j = k := by
  obtain ⟨k, rfl⟩ := Int.eq_ofNat_of_zero_le hk.1
  obtain ⟨j, rfl⟩ := Int.eq_ofNat_of_zero_le hj.1
  have hk : k < 8 := by have := hk.2; omega
  have hj : j < 8 := by have := hj.2; omega
  rw [(bit_at (x := 0) (by omega) hk).1, (bit_at (Nat.pow_lt_pow_right (a := 2) (by omega) hk) hj).2.2, Nat.testBit_two_pow]
  simp only [decide_eq_true_eq]
  omega
theorem iOr_0 {x : Int} (hx : st8 x) : iOr x 0 = x := by
  obtain ⟨a, rfl⟩ := Int.eq_ofNat_of_zero_le hx.1
  have ha : a < 256 := by have := hx.2; omega
  have := iOr_nat (a := a) (b := 0) ha (by omega)
  rw [Nat.or_zero] at this
  exact this
theorem ms_0 {j : Int} (hj : 0 ≤ j ∧ j < 8) : ¬ msB 0 j := by
  obtain ⟨j, rfl⟩ := Int.eq_ofNat_of_zero_le hj.1
  have hj : j < 8 := by have := hj.2; omega
  have := (bit_at (x := 0) (k := j) (by omega) hj).2.2
  intro h
  have := this.mp h
  simp at this
theorem st_and {x k : Int} (hx : st8 x) (hk : 0 ≤ k ∧ k < 8) : st8 (iAnd x (iXor (iShl 1 k) (-1))) := by
  obtain ⟨a, rfl⟩ := Int.eq_ofNat_of_zero_le hx.1
  obtain ⟨k, rfl⟩ := Int.eq_ofNat_of_zero_le hk.1
  have ha : a < 256 := by have := hx.2; omega
  have hk : k < 8 := by have := hk.2; omega
  rw [(bit_at ha hk).2.1]
  have := Nat.and_le_left (n := a) (m := 255 - 2 ^ k)
  exact ⟨by omega, by omega⟩
theorem mask_bit : (List.range 8).all (fun k => (List.range 8).all (fun j => Nat.testBit (255 - 2 ^ k) j == !(j == k))) = true := by decide +kernel
theorem ms_and {x k j : Int} (hx : st8 x) (hk : 0 ≤ k ∧ k < 8) (hj : 0 ≤ j ∧ j < 8) : msB (iAnd x (iXor (iShl 1 k) (-1))) j ↔ msB x j ∧ j ≠ k := by
  obtain ⟨a, rfl⟩ := Int.eq_ofNat_of_zero_le hx.1
  obtain ⟨k, rfl⟩ := Int.eq_ofNat_of_zero_le hk.1
  obtain ⟨j, rfl⟩ := Int.eq_ofNat_of_zero_le hj.1
  have ha : a < 256 := by have := hx.2; omega
  have hk : k < 8 := by have := hk.2; omega
  have hj : j < 8 := by have := hj.2; omega
  have h := List.all_eq_true.mp (List.all_eq_true.mp mask_bit k (List.mem_range.mpr hk)) j (List.mem_range.mpr hj)
  simp only [beq_iff_eq] at h
  have := Nat.and_le_left (n := a) (m := 255 - 2 ^ k)
  rw [(bit_at ha hk).2.1, (bit_at (by omega) hj).2.2, (bit_at ha hj).2.2, Nat.testBit_and, h]
  simp only [Bool.and_eq_true, Bool.not_eq_true', beq_eq_false_iff_ne, ne_eq]
  exact and_congr Iff.rfl ⟨fun h e => h (by omega), fun h e => h (by omega)⟩
theorem st_ext0 {x : Int} (hx : st8 x) (h : ∀ j, 0 ≤ j → j < 8 → ¬ msB x j) : x = 0 := by
  obtain ⟨a, rfl⟩ := Int.eq_ofNat_of_zero_le hx.1
  have ha : a < 256 := by have := hx.2; omega
  have : a = 0 := by
    apply Nat.eq_of_testBit_eq
    intro i
    rw [Nat.zero_testBit]
    by_cases hi : i < 8
    · have h1 := h i (by omega) (by omega)
      rw [(bit_at ha hi).2.2] at h1
      simpa using h1
    · apply Nat.testBit_lt_two_pow
      exact Nat.lt_of_lt_of_le (show a < 2 ^ 8 by omega) (Nat.pow_le_pow_right (by omega) (by omega))
  rw [this]; rfl
/-- a part of one bundle written -/
theorem it_set {s : Int → Int} {b w v b' w' : Int} (h : 0 ≤ w ∧ w < 20) (h' : 0 ≤ w' ∧ w' < 20) : it (set1 s (3 + 20 * b + w) v) b' w' = if b' = b ∧ w' = w then v else it s b' w' := by
  unfold it
  by_cases e : b' = b ∧ w' = w
  · rw [if_pos e, e.1, e.2, set1_at]
  · rw [if_neg e, set1_ne (by omega)]
theorem it_set_ne {s : Int → Int} {b w v b' w' : Int} (h : 0 ≤ w ∧ w < 20) (h' : 0 ≤ w' ∧ w' < 20) (n : b' ≠ b ∨ w' ≠ w) : it (set1 s (3 + 20 * b + w) v) b' w' = it s b' w' := by
  rw [it_set h h', if_neg (by omega)]
theorem it_set_at {s : Int → Int} {b w v : Int} (h : 0 ≤ w ∧ w < 20) : it (set1 s (3 + 20 * b + w) v) b w = v := by
  rw [it_set h h, if_pos ⟨rfl, rfl⟩]
/-- a bundle is as it was if its parts are -/
theorem BR_same {nd cn : Int} {of s s' : Int → Int} {b : Int} (h : ∀ w, 0 ≤ w → w < 20 → it s' b w = it s b w) (hr : BR nd cn of s b) : BR nd cn of s' b := by
  obtain ⟨a1, a2, a3, a4, a5, a6, a7, a8, a9, a10, a11, a12, a13, a14, a15, a16, a17⟩ := hr
  unfold BR hopC hopB at *
  rw [h 0 (by decide) (by decide), h 1 (by decide) (by decide), h 2 (by decide) (by decide), h 3 (by decide) (by decide), h 4 (by decide) (by decide), h 5 (by decide) (by decide), h 6 (by decide) (by decide), h 7 (by decide) (by decide), h 8 (by decide) (by decide), h 9 (by decide) (by decide)]
  refine ⟨a1, a2, a3, a4, a5, a6, a7, a8, a9, a10, a11, a12, a13, a14, a15, fun k h0 h1 => ?_, a17⟩
  rw [h _ (by omega) (by omega), h _ (by omega) (by omega)]
  exact a16 k h0 h1
noncomputable def giveP (s : Int → Int) (b : Int) : Int → Int := set1 s (3 + 20 * b + 9) 0
theorem BR_give {nd cn : Int} {of s : Int → Int} {b b' : Int} (hr : BR nd cn of s b') : BR nd cn of (giveP s b) b' := by
  by_cases e : b' = b
  · subst e
    obtain ⟨a1, a2, a3, a4, a5, a6, a7, a8, a9, a10, a11, a12, a13, a14, a15, a16, a17⟩ := hr
    have h : ∀ w, 0 ≤ w → w < 20 → w ≠ 9 → it (giveP s b') b' w = it s b' w := fun w h0 h1 h2 => it_set_ne (by omega) ⟨h0, h1⟩ (Or.inr h2)
    have h9 : it (giveP s b') b' 9 = 0 := it_set_at (by omega)
    unfold BR
    rw [h 0 (by decide) (by decide) (by decide), h 1 (by decide) (by decide) (by decide), h 2 (by decide) (by decide) (by decide), h 3 (by decide) (by decide) (by decide), h 4 (by decide) (by decide) (by decide), h 5 (by decide) (by decide) (by decide), h 6 (by decide) (by decide) (by decide), h 7 (by decide) (by decide) (by decide), h 8 (by decide) (by decide) (by decide), h9]
    exact ⟨a1, a2, a3, a4, a5, a6, a7, a8, a9, a10, a11, a12, a13, by decide, by decide, fun k h0 h1 => by omega, a17⟩
  · exact BR_same (fun w h0 h1 => it_set_ne (by omega) ⟨h0, h1⟩ (Or.inl e)) hr
theorem SR_give {nd cn : Int} {of s : Int → Int} {b : Int} (hb : 0 ≤ b) (h : SR nd cn of s) : SR nd cn of (giveP s b) := by
  obtain ⟨h1, h2, h3, h4, h5⟩ := h
  have e : ∀ k, k < 3 → giveP s b k = s k := fun k hk => set1_ne (by omega)
  refine ⟨by rw [e 0 (by decide)]; exact h1, by rw [e 0 (by decide)]; exact h2, by rw [e 2 (by decide)]; exact h3, by rw [e 2 (by decide)]; exact h4, fun b' g1 g2 => ?_⟩
  rw [e 2 (by decide)] at g2
  exact BR_give (h5 b' g1 g2)
def meetP (of s : Int → Int) (b k o e : Int) : Prop := hopC s b k = hopC s o e ∧ hopB s b k < hopB s o e + tkD of (it s o 0) (hopC s b k) ∧ hopB s o e < hopB s b k + tkD of (it s b 0) (hopC s b k)
/-- o is pushed out by b -/
def poP (of s : Int → Int) (b o : Int) : Prop := ∃ k, 0 ≤ k ∧ k < it s b 9 ∧ it s o 3 < it s b 3 ∧ ∃ e, 0 ≤ e ∧ e < it s o 9 ∧ meetP of s b k o e
noncomputable def poSet (of s : Int → Int) (b : Int) : Nat → Int
  | 0 => 0
  | m + 1 => iOr (poSet of s b m) (@ite _ (poP of s b m) (Classical.propDecidable _) (iShl 1 m) 0)
noncomputable def giveAll (s : Int → Int) (x : Int) : Nat → Int → Int
  | 0 => s
  | m + 1 => @ite _ (msB x m) (Classical.propDecidable _) (giveP (giveAll s x m) m) (giveAll s x m)
theorem poSet_st (of s : Int → Int) (b : Int) {m : Nat} (hm : m ≤ 8) : st8 (poSet of s b m) := by
  induction m with
  | zero => exact (show st8 0 from ⟨by decide, by decide⟩)
  | succ m ih =>
    unfold poSet
    refine iOr_st (ih (by omega)) ?_
    by_cases h : poP of s b m
    · rw [if_pos h]
      exact shl_st ⟨by omega, by omega⟩
    · rw [if_neg h]
      exact ⟨by decide, by decide⟩
theorem poSet_ms (of s : Int → Int) (b : Int) {m : Nat} (hm : m ≤ 8) {j : Int} (hj : 0 ≤ j ∧ j < 8) : msB (poSet of s b m) j ↔ j < m ∧ poP of s b j := by
  induction m with
  | zero => exact ⟨fun h => absurd h (ms_0 hj), fun h => absurd h.1 (by omega)⟩
  | succ m ih =>
    unfold poSet
    by_cases h : poP of s b m
    · rw [if_pos h, ms_or (poSet_st of s b (by omega)) (shl_st ⟨by omega, by omega⟩) hj, ih (by omega), ms_shl ⟨by omega, by omega⟩ hj]
      constructor
      · rintro (g | g)
        · exact ⟨by omega, g.2⟩
        · rw [g]; exact ⟨by omega, h⟩
      · rintro ⟨g1, g2⟩
        by_cases e : j = m
        · exact Or.inr e
        · exact Or.inl ⟨by omega, g2⟩
    · rw [if_neg h, iOr_0 (poSet_st of s b (by omega)), ih (by omega)]
      constructor
      · rintro ⟨g1, g2⟩
        exact ⟨by omega, g2⟩
      · rintro ⟨g1, g2⟩
        refine ⟨?_, g2⟩
        by_cases e : j = m
        · rw [e] at g2; exact absurd g2 h
        · omega
theorem giveAll_SR {nd cn : Int} {of s : Int → Int} {x : Int} (m : Nat) (h : SR nd cn of s) : SR nd cn of (giveAll s x m) := by
  induction m with
  | zero => exact h
  | succ m ih =>
    unfold giveAll
    by_cases g : msB x m
    · rw [if_pos g]
      exact SR_give (by omega) ih
    · rw [if_neg g]
      exact ih
theorem giveAll_lo (s : Int → Int) (x : Int) (m : Nat) {k : Int} (hk : k < 3) : giveAll s x m k = s k := by
  induction m with
  | zero => rfl
  | succ m ih =>
    unfold giveAll
    by_cases g : msB x m
    · rw [if_pos g]
      exact (set1_ne (by omega)).trans ih
    · rw [if_neg g]
      exact ih
section Push
variable {G : GT} {n : Nat} {μ : Mem}
theorem S_has (hg : gx G = FX) {Q : Int → Nat → Mem → Prop} {x k : Int} (q0 : ¬ msB x k → Q 0 n μ) (q1 : msB x k → Q 1 n μ) : CI G Y_X11_has [.inl x, .inl k] n μ Q := m_X11_has hg ⟨q0, q1⟩
theorem S_givesUp (hg : gx G = FX) {Q : Nat → Mem → Prop} {b : Int} (hb : 0 ≤ b ∧ b ≤ 7) (q : Q n (up μ 402 (3 + 20 * b + 9) 0)) : CV G Y_X11_givesUp [.inr 399, .inl b] n μ Q :=
  m_X11_givesUp hg (S_at hg (by omega) ⟨by omega, by omega, q⟩)
theorem S_meets (hg : gx G = FX) {Q : Int → Nat → Mem → Prop} {nd cn b k o e : Int} (hp : PW nd cn (μ 400)) (hb : 0 ≤ b ∧ b ≤ 7) (ho : 0 ≤ o ∧ o ≤ 7) (hB : BR nd cn (μ 400) (μ 402) b) (hO : BR nd cn (μ 400) (μ 402) o) (hk : 0 ≤ k ∧ k < it (μ 402) b 9) (he : 0 ≤ e ∧ e < it (μ 402) o 9)
    (q0 : ¬ meetP (μ 400) (μ 402) b k o e → Q 0 n μ) (q1 : meetP (μ 400) (μ 402) b k o e → Q 1 n μ) : CI G Y_X11_meets [.inr 399, .inl b, .inl k, .inl o, .inl e] n μ Q := by
  obtain ⟨w1, w2, -, -, -, -, -, -, -, -, -, -, -, h0, h5, hh, -⟩ := hB
  obtain ⟨u1, u2, -, -, -, -, -, -, -, -, -, -, -, g0, g5, gg, -⟩ := hO
  have h1 := hh k hk.1 hk.2
  have g1 := gg e he.1 he.2
  have hc := hp.2.2.2.2 _ h1.1 h1.2.1
  have hc8 := hp.2.2.2.1
  have hd1 := tkD_le w1 w2 hc.2.2.2.2.2.2.2.2.2.1 hc.2.2.2.2.2.2.2.2.2.2.1
  have hd2 := tkD_le u1 u2 hc.2.2.2.2.2.2.2.2.2.1 hc.2.2.2.2.2.2.2.2.2.2.1
  unfold meetP at q0 q1
  have hcc : hopC (μ 402) b k = it (μ 402) b (10 + 2 * k) := rfl
  have hbb : hopB (μ 402) b k = it (μ 402) b (10 + 2 * k + 1) := rfl
  have gcc : hopC (μ 402) o e = it (μ 402) o (10 + 2 * e) := rfl
  have gbb : hopB (μ 402) o e = it (μ 402) o (10 + 2 * e + 1) := rfl
  rw [hcc, hbb, gcc, gbb] at q0 q1
  rw [hcc] at hc hd1 hd2 h1
  rw [gbb, gcc] at g1
  rw [hbb] at h1
  refine m_X11_meets hg ⟨by omega, by omega, S_its hg (by omega) ⟨by omega, by omega, by omega, S_its hg (by omega) ⟨by omega, by omega, by omega, S_its hg (by omega) ⟨by omega, by omega, S_its hg (by omega) ⟨fun c => q0 (fun g => c g.1), fun c => S_its hg (by omega) (S_ticks hg (by omega) ⟨u1, u2⟩ (by omega) ?_)⟩⟩⟩⟩⟩
  have hle : it (μ 402) o (10 + 2 * e + 1) + tkD (μ 400) (it (μ 402) o 0) (it (μ 402) b (10 + 2 * k)) ≤ 99 := by rw [c]; omega
  refine ⟨by omega, fun c2 => q0 (fun g => by omega), fun c2 => S_its hg (by omega) (S_ticks hg (by omega) ⟨w1, w2⟩ (by omega) ⟨by omega, fun c3 => q0 (fun g => by omega), fun c3 => q1 ⟨c, by omega, by omega⟩⟩)⟩
end Push
