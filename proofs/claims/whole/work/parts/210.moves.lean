-- the model: ticks pass
/-- the first hop is taken from the hops -/
noncomputable def popP (s : Int → Int) (b : Int) : Int → Int := fun j =>
  if j = 3 + 20 * b + 9 then it s b 9 - 1 else if 3 + 20 * b + 10 ≤ j ∧ j < 3 + 20 * b + 10 + 2 * (it s b 9 - 1) then s (j + 2) else s j
theorem popP_it {s : Int → Int} {b o w : Int} (h9 : it s b 9 ≤ 5) (hw : 0 ≤ w ∧ w < 20) : it (popP s b) o w = if o = b ∧ w = 9 then it s b 9 - 1 else if o = b ∧ 10 ≤ w ∧ w < 10 + 2 * (it s b 9 - 1) then it s b (w + 2) else it s o w := by
  have e : it (popP s b) o w = if 3 + 20 * o + w = 3 + 20 * b + 9 then it s b 9 - 1 else if 3 + 20 * b + 10 ≤ 3 + 20 * o + w ∧ 3 + 20 * o + w < 3 + 20 * b + 10 + 2 * (it s b 9 - 1) then s (3 + 20 * o + w + 2) else s (3 + 20 * o + w) := rfl
  rw [e]
  by_cases c1 : o = b ∧ w = 9
  · rw [if_pos c1, if_pos (by omega)]
  · rw [if_neg c1, if_neg (by omega)]
    by_cases c2 : o = b ∧ 10 ≤ w ∧ w < 10 + 2 * (it s b 9 - 1)
    · rw [if_pos c2, if_pos (by omega), c2.1]
      unfold it
      congr 1
      omega
    · rw [if_neg c2, if_neg (by omega)]
      rfl
theorem popP_lo {s : Int → Int} {b j : Int} (hb : 0 ≤ b) (hj : j < 3) : popP s b j = s j := by
  unfold popP
  rw [if_neg (by omega), if_neg (by omega)]
/-- it is there -/
noncomputable def landP (of s : Int → Int) (b c : Int) : Int → Int := set1 s (3 + 20 * b + 4) (cf of c 1)
/-- it is on its way -/
noncomputable def boardP (s : Int → Int) (b c f : Int) : Int → Int := set1 (set1 s (3 + 20 * b + 7) c) (3 + 20 * b + 8) f
noncomputable def offP (of s : Int → Int) (b : Int) : Int → Int := set1 (landP of s b (it s b 7)) (3 + 20 * b + 7) (-9)
noncomputable def moveL (of : Int → Int) (b : Int) : Nat → (Int → Int) → Int → Int
  | 0, s => s
  | k + 1, s => if it s b 7 = -9 ∧ 0 < it s b 9 ∧ it s b 11 < s 0 then moveL of b k (if arrT of s b (it s b 10) (it s b 11) ≤ s 0 then landP of (popP s b) b (it s b 10) else boardP (popP s b) b (it s b 10) (it s b 11)) else s
noncomputable def moveP (of s : Int → Int) (b : Int) : Int → Int := moveL of b 6 (if it s b 7 ≠ -9 ∧ arrT of s b (it s b 7) (it s b 8) ≤ s 0 then offP of s b else s)
noncomputable def moveAll (of s : Int → Int) : Nat → Int → Int
  | 0 => s
  | k + 1 => moveP of (moveAll of s k) k
/-- nothing of the others, and of it nothing but where it is, what it is on and its hops -/
def SameB (b : Int) (s s' : Int → Int) : Prop := (∀ k, k < 3 → s' k = s k) ∧ ∀ o w, 0 ≤ o → 0 ≤ w → w < 20 → (o ≠ b ∨ (w < 4 ∨ w = 5 ∨ w = 6)) → it s' o w = it s o w
theorem SameB.rf {b : Int} {s : Int → Int} : SameB b s s := ⟨fun _ _ => rfl, fun _ _ _ _ _ _ => rfl⟩
theorem SameB.tr {b : Int} {s s' t : Int → Int} (h : SameB b s s') (h2 : SameB b s' t) : SameB b s t := ⟨fun k hk => (h2.1 k hk).trans (h.1 k hk), fun o w o0 w0 w1 hw => (h2.2 o w o0 w0 w1 hw).trans (h.2 o w o0 w0 w1 hw)⟩
theorem SameB_set {s : Int → Int} {b w v : Int} (hb : 0 ≤ b) (hw : w = 4 ∨ (7 ≤ w ∧ w < 20)) : SameB b s (set1 s (3 + 20 * b + w) v) := ⟨fun k hk => set1_ne (by omega), fun o u o0 u0 u1 h => it_set_ne (by omega) ⟨u0, u1⟩ (by omega)⟩
theorem SameB_pop {s : Int → Int} {b : Int} (hb : 0 ≤ b) (h9 : it s b 9 ≤ 5) : SameB b s (popP s b) := ⟨fun k hk => popP_lo hb hk, fun o w o0 w0 w1 h => by rw [popP_it h9 ⟨w0, w1⟩, if_neg (by omega), if_neg (by omega)]⟩
theorem SameB_off {of s : Int → Int} {b : Int} (hb : 0 ≤ b) : SameB b s (offP of s b) := (SameB_set hb (Or.inl rfl)).tr (SameB_set hb (Or.inr (by omega)))
theorem SameB_land {of s : Int → Int} {b c : Int} (hb : 0 ≤ b) : SameB b s (landP of s b c) := SameB_set hb (Or.inl rfl)
theorem SameB_board {s : Int → Int} {b c f : Int} (hb : 0 ≤ b) : SameB b s (boardP s b c f) := (SameB_set hb (Or.inr (by omega))).tr (SameB_set hb (Or.inr (by omega)))
/-- the parts of a bundle that a change touches, as they must be -/
theorem SR_move {nd cn b : Int} {of s s' : Int → Int} (hs : SR nd cn of s) (hb : 0 ≤ b) (h : SameB b s s') (h4 : 0 ≤ it s' b 4 ∧ it s' b 4 < nd) (h7 : it s' b 7 = -9 ∨ (0 ≤ it s' b 7 ∧ it s' b 7 < cn)) (h9 : 0 ≤ it s' b 9 ∧ it s' b 9 ≤ 5)
    (hh : ∀ k, 0 ≤ k → k < it s' b 9 → 0 ≤ hopC s' b k ∧ hopC s' b k < cn ∧ 0 ≤ hopB s' b k ∧ hopB s' b k + tkD of (it s b 0) (hopC s' b k) ≤ 99) (h8 : it s' b 7 ≠ -9 → 0 ≤ it s' b 8 ∧ it s' b 8 + tkD of (it s b 0) (it s' b 7) ≤ 99) : SR nd cn of s' := by
  obtain ⟨s1, s2, s3, s4, s5⟩ := hs
  have e0 := h.1 0 (by decide)
  have e2 := h.1 2 (by decide)
  refine ⟨by omega, by omega, by omega, by omega, fun o o0 o1 => ?_⟩
  by_cases e : o = b
  · subst e
    have hB := s5 o o0 (by omega)
    obtain ⟨a1, a2, a3, a4, a5, a6, a7, a8, a9, a10, a11, a12, a13, a14, a15, a16, a17⟩ := hB
    have f : ∀ w, 0 ≤ w → w < 20 → (w < 4 ∨ w = 5 ∨ w = 6) → it s' o w = it s o w := fun w w0 w1 hw => h.2 o w o0 w0 w1 (Or.inr hw)
    unfold BR
    rw [f 0 (by decide) (by decide) (by decide), f 1 (by decide) (by decide) (by decide), f 2 (by decide) (by decide) (by decide), f 3 (by decide) (by decide) (by decide), f 5 (by decide) (by decide) (by decide), f 6 (by decide) (by decide) (by decide)]
    exact ⟨a1, a2, a3, a4, a5, a6, a7, a8, h4.1, h4.2, a11, a12, h7, h9.1, h9.2, hh, h8⟩
  · exact BR_same (fun w w0 w1 => h.2 o w o0 w0 w1 (Or.inl e)) (s5 o o0 (by omega))
theorem SR_off {nd cn b : Int} {of s : Int → Int} (hp : PW nd cn of) (hs : SR nd cn of s) (hb : 0 ≤ b ∧ b < s 2) (hon : it s b 7 ≠ -9) : SR nd cn of (offP of s b) := by
  have hB := hs.2.2.2.2 b hb.1 hb.2
  obtain ⟨a1, a2, a3, a4, a5, a6, a7, a8, a9, a10, a11, a12, a13, a14, a15, a16, a17⟩ := hB
  have ho := a13.resolve_left hon
  have hc := hp.2.2.2.2 _ ho.1 ho.2
  have f : ∀ w, 0 ≤ w → w < 20 → w ≠ 4 → w ≠ 7 → it (offP of s b) b w = it s b w := fun w w0 w1 w4 w7 => (it_set_ne (by omega) ⟨w0, w1⟩ (Or.inr w7)).trans (it_set_ne (by omega) ⟨w0, w1⟩ (Or.inr w4))
  have f4 : it (offP of s b) b 4 = cf of (it s b 7) 1 := (it_set_ne (by omega) (by omega) (Or.inr (by decide))).trans (it_set_at (by omega))
  have f7 : it (offP of s b) b 7 = -9 := it_set_at (by omega)
  refine SR_move hs hb.1 (SameB_off hb.1) (by rw [f4]; omega) (Or.inl f7) (by rw [f 9 (by decide) (by decide) (by decide) (by decide)]; exact ⟨a14, a15⟩) (fun k k0 k1 => ?_) (fun q => absurd f7 q)
  rw [f 9 (by decide) (by decide) (by decide) (by decide)] at k1
  unfold hopC hopB
  rw [f _ (by omega) (by omega) (by omega) (by omega), f _ (by omega) (by omega) (by omega) (by omega)]
  exact a16 k k0 k1
theorem SR_pop {nd cn b : Int} {of s : Int → Int} (hs : SR nd cn of s) (hb : 0 ≤ b ∧ b < s 2) (h9 : 0 < it s b 9) : SR nd cn of (popP s b) := by
  have hB := hs.2.2.2.2 b hb.1 hb.2
  obtain ⟨a1, a2, a3, a4, a5, a6, a7, a8, a9, a10, a11, a12, a13, a14, a15, a16, a17⟩ := hB
  have f : ∀ w, 0 ≤ w → w < 9 → it (popP s b) b w = it s b w := fun w w0 w1 => by rw [popP_it a15 (by omega), if_neg (by omega), if_neg (by omega)]
  have f9 : it (popP s b) b 9 = it s b 9 - 1 := by rw [popP_it a15 (by omega), if_pos (by omega)]
  refine SR_move hs hb.1 (SameB_pop hb.1 a15) (by rw [f 4 (by decide) (by decide)]; omega) (by rw [f 7 (by decide) (by decide)]; exact a13) (by omega) (fun k k0 k1 => ?_) (by rw [f 7 (by decide) (by decide), f 8 (by decide) (by decide)]; exact a17)
  have := a16 (k + 1) (by omega) (by omega)
  unfold hopC hopB at this ⊢
  rw [popP_it a15 (by omega), if_neg (by omega), if_pos (by omega), popP_it a15 (by omega), if_neg (by omega), if_pos (by omega)]
  rw [show 10 + 2 * (k + 1) = 10 + 2 * k + 2 by omega, show 10 + 2 * k + 2 + 1 = 10 + 2 * k + 1 + 2 by omega] at this
  exact this
theorem SR_land {nd cn b c : Int} {of s : Int → Int} (hp : PW nd cn of) (hs : SR nd cn of s) (hb : 0 ≤ b ∧ b < s 2) (hc : 0 ≤ c ∧ c < cn) : SR nd cn of (landP of s b c) := by
  have hB := hs.2.2.2.2 b hb.1 hb.2
  obtain ⟨a1, a2, a3, a4, a5, a6, a7, a8, a9, a10, a11, a12, a13, a14, a15, a16, a17⟩ := hB
  have hcf := hp.2.2.2.2 c hc.1 hc.2
  have f : ∀ w, 0 ≤ w → w < 20 → w ≠ 4 → it (landP of s b c) b w = it s b w := fun w w0 w1 w4 => it_set_ne (by omega) ⟨w0, w1⟩ (Or.inr w4)
  refine SR_move hs hb.1 (SameB_land hb.1) (by rw [show it (landP of s b c) b 4 = cf of c 1 from it_set_at (by omega)]; omega) (by rw [f 7 (by decide) (by decide) (by decide)]; exact a13) (by rw [f 9 (by decide) (by decide) (by decide)]; exact ⟨a14, a15⟩) (fun k k0 k1 => ?_) (by rw [f 7 (by decide) (by decide) (by decide), f 8 (by decide) (by decide) (by decide)]; exact a17)
  rw [f 9 (by decide) (by decide) (by decide)] at k1
  unfold hopC hopB
  rw [f _ (by omega) (by omega) (by omega), f _ (by omega) (by omega) (by omega)]
  exact a16 k k0 k1
theorem SR_board {nd cn b c t : Int} {of s : Int → Int} (hs : SR nd cn of s) (hb : 0 ≤ b ∧ b < s 2) (hc : 0 ≤ c ∧ c < cn) (ht : 0 ≤ t ∧ t + tkD of (it s b 0) c ≤ 99) : SR nd cn of (boardP s b c t) := by
  have hB := hs.2.2.2.2 b hb.1 hb.2
  obtain ⟨a1, a2, a3, a4, a5, a6, a7, a8, a9, a10, a11, a12, a13, a14, a15, a16, a17⟩ := hB
  have f : ∀ w, 0 ≤ w → w < 20 → w ≠ 7 → w ≠ 8 → it (boardP s b c t) b w = it s b w := fun w w0 w1 w7 w8 => (it_set_ne (by omega) ⟨w0, w1⟩ (Or.inr w8)).trans (it_set_ne (by omega) ⟨w0, w1⟩ (Or.inr w7))
  have f7 : it (boardP s b c t) b 7 = c := (it_set_ne (by omega) (by omega) (Or.inr (by decide))).trans (it_set_at (by omega))
  have f8 : it (boardP s b c t) b 8 = t := it_set_at (by omega)
  refine SR_move hs hb.1 (SameB_board hb.1) (by rw [f 4 (by decide) (by decide) (by decide) (by decide)]; omega) (by rw [f7]; exact Or.inr hc) (by rw [f 9 (by decide) (by decide) (by decide) (by decide)]; exact ⟨a14, a15⟩) (fun k k0 k1 => ?_) (fun _ => by rw [f7, f8]; exact ht)
  rw [f 9 (by decide) (by decide) (by decide) (by decide)] at k1
  unfold hopC hopB
  rw [f _ (by omega) (by omega) (by omega) (by omega), f _ (by omega) (by omega) (by omega) (by omega)]
  exact a16 k k0 k1
theorem moveL_ok {nd cn b : Int} {of : Int → Int} (hp : PW nd cn of) : ∀ (r : Nat) {s : Int → Int}, SR nd cn of s → 0 ≤ b ∧ b < s 2 → SR nd cn of (moveL of b r s) ∧ SameB b s (moveL of b r s) := by
  intro r
  induction r with
  | zero => intro s hs hb; exact ⟨hs, SameB.rf⟩
  | succ r ih =>
    intro s hs hb
    unfold moveL
    by_cases c : it s b 7 = -9 ∧ 0 < it s b 9 ∧ it s b 11 < s 0
    · rw [if_pos c]
      have hB := hs.2.2.2.2 b hb.1 hb.2
      have h1 := hB.2.2.2.2.2.2.2.2.2.2.2.2.2.2.2.1 0 (by decide) c.2.1
      have h9 := hB.2.2.2.2.2.2.2.2.2.2.2.2.2.2.1
      have hsp := SR_pop hs hb c.2.1
      have hSp := SameB_pop hb.1 h9
      have e0 : it (popP s b) b 0 = it s b 0 := hSp.2 b 0 hb.1 (by decide) (by decide) (by omega)
      have hbp : 0 ≤ b ∧ b < popP s b 2 := by rw [hSp.1 2 (by decide)]; exact hb
      by_cases d : arrT of s b (it s b 10) (it s b 11) ≤ s 0
      · rw [if_pos d]
        have hS : SameB b s (landP of (popP s b) b (it s b 10)) := hSp.tr (SameB_land hb.1)
        have := ih (s := landP of (popP s b) b (it s b 10)) (SR_land hp hsp hbp ⟨h1.1, h1.2.1⟩) (by rw [hS.1 2 (by decide)]; exact hb)
        exact ⟨this.1, hS.tr this.2⟩
      · rw [if_neg d]
        have hS : SameB b s (boardP (popP s b) b (it s b 10) (it s b 11)) := hSp.tr (SameB_board hb.1)
        have := ih (s := boardP (popP s b) b (it s b 10) (it s b 11)) (SR_board hsp hbp ⟨h1.1, h1.2.1⟩ (by rw [e0]; exact h1.2.2)) (by rw [hS.1 2 (by decide)]; exact hb)
        exact ⟨this.1, hS.tr this.2⟩
    · rw [if_neg c]
      exact ⟨hs, SameB.rf⟩
theorem moveP_ok {nd cn b : Int} {of s : Int → Int} (hp : PW nd cn of) (hs : SR nd cn of s) (hb : 0 ≤ b ∧ b < s 2) : SR nd cn of (moveP of s b) ∧ SameB b s (moveP of s b) := by
  unfold moveP
  by_cases c : it s b 7 ≠ -9 ∧ arrT of s b (it s b 7) (it s b 8) ≤ s 0
  · rw [if_pos c]
    have hS : SameB b s (offP of s b) := SameB_off hb.1
    have := moveL_ok hp 6 (SR_off hp hs hb c.1) (by rw [hS.1 2 (by decide)]; exact hb)
    exact ⟨this.1, hS.tr this.2⟩
  · rw [if_neg c]
    exact moveL_ok hp 6 hs hb
theorem moveAll_ok {nd cn : Int} {of s : Int → Int} (hp : PW nd cn of) (hs : SR nd cn of s) : ∀ (k : Nat), k ≤ s 2 → SR nd cn of (moveAll of s k) ∧ (∀ j, j < 3 → moveAll of s k j = s j) ∧ ∀ o w : Int, 0 ≤ o → 0 ≤ w → w < 20 → (k ≤ o ∨ (w < 4 ∨ w = 5 ∨ w = 6)) → it (moveAll of s k) o w = it s o w := by
  intro k
  induction k with
  | zero => intro _; exact ⟨hs, fun _ _ => rfl, fun _ _ _ _ _ _ => rfl⟩
  | succ k ih =>
    intro hk
    have i := ih (by omega)
    have h := moveP_ok (b := k) hp i.1 (by rw [i.2.1 2 (by decide)]; omega)
    exact ⟨h.1, fun j hj => (h.2.1 j hj).trans (i.2.1 j hj), fun o w o0 w0 w1 hw => (h.2.2 o w o0 w0 w1 (by omega)).trans (i.2.2 o w o0 w0 w1 (by omega))⟩
/-- more fuel is nothing -/
theorem moveL_0 {of s : Int → Int} {b : Int} (h : ¬ (it s b 7 = -9 ∧ 0 < it s b 9 ∧ it s b 11 < s 0)) (r : Nat) : moveL of b r s = s := by
  cases r with
  | zero => rfl
  | succ r => exact if_neg h
section Moves
variable {G : GT} {n : Nat} {μ : Mem}
theorem S_moves (hg : gx G = FX) {Q : Nat → Mem → Prop} {nd cn b : Int} {of s : Int → Int} (hp : PW nd cn of) (hs : SR nd cn of s) (hb : 0 ≤ b ∧ b < s 2) (e4 : μ 400 = of) (e2 : μ 402 = s)
    (q : ∀ ν, But 402 μ ν → ν 402 = moveP of s b → Q n ν) : CV G Y_X11_moves [.inr 399, .inl b] n μ Q := by
  have hc8 := hp.2.2.2.1
  have hof := hp.2.2.2.2
  have hm8 := hs.2.2.2.1
  have loop : ∀ (r : Nat) (t : Int → Int) (ν : Mem), SR nd cn of t → b < t 2 → it t b 9 ≤ (r : Int) → But 402 μ ν → ν 402 = t → (∀ ξ, But 402 μ ξ → ξ 402 = moveL of b (r + 1) t → Q n ξ) → B_X11_moves_78 G Q n ν b := by
    intro r
    induction r with
    | zero =>
      intro t ν ht htb h9 hB h2 hQ
      rw [moveL_0 (by omega)] at hQ
      refine b_X11_moves_78 hg (S_isOn hg (by omega) (fun c => ⟨fun z => absurd rfl z, fun _ => S_its hg (by omega) ?_⟩) (fun c => ⟨fun _ => hQ ν hB h2, fun z => absurd z (by decide)⟩))
      rw [h2]
      exact ⟨fun _ => hQ ν hB h2, fun z => absurd (by omega) z⟩
    | succ r ih =>
      intro t ν ht htb h9 hB h2 hQ
      have htb' : 0 ≤ b ∧ b < t 2 := ⟨hb.1, htb⟩
      have v4 : ν 400 = of := (hB 400 (by decide)).trans e4
      have hT := ht.2.2.2.2 b hb.1 htb
      have h95 := hT.2.2.2.2.2.2.2.2.2.2.2.2.2.2.1
      refine b_X11_moves_78 hg (S_isOn hg (by omega) (fun c => ⟨fun z => absurd rfl z, fun _ => S_its hg (by omega) ?_⟩) (fun c => ⟨fun _ => ?_, fun z => absurd z (by decide)⟩))
      · rw [h2] at c ⊢
        refine ⟨fun z => ?_, fun c9 => S_its hg (by omega) ?_⟩
        · rw [moveL_0 (by omega)] at hQ
          exact hQ ν hB h2
        rw [h2]
        refine ⟨fun z => ?_, fun c11 => ?_⟩
        · rw [moveL_0 (by omega)] at hQ
          exact hQ ν hB h2
        have hc : it t b 7 = -9 ∧ 0 < it t b 9 ∧ it t b 11 < t 0 := ⟨c, by omega, by omega⟩
        have hh := hT.2.2.2.2.2.2.2.2.2.2.2.2.2.2.2.1 0 (by decide) (by omega)
        have hcc : 0 ≤ it t b 10 ∧ it t b 10 < cn := ⟨hh.1, hh.2.1⟩
        have hff : 0 ≤ it t b 11 ∧ it t b 11 + tkD of (it t b 0) (it t b 10) ≤ 99 := hh.2.2
        have hcf := hof _ hcc.1 hcc.2
        have hd := tkD_le hT.1 hT.2.1 hcf.2.2.2.2.2.2.2.2.2.1 hcf.2.2.2.2.2.2.2.2.2.2.1
        refine S_its hg (by omega) (S_its hg (by omega) (S_at hg (by omega) ⟨by omega, by omega, ?_⟩))
        rw [h2]
        have e9 : ν 402 (3 + 20 * b + 9) = it t b 9 := by rw [h2]; rfl
        refine ⟨by rw [← h2] at *; omega, by omega, ?_⟩
        rw [show t (3 + 20 * b + 9) = it t b 9 from rfl]
        -- the hops are moved
        have sh : ∀ (m : Nat) (k : Int) (ξ : Mem), k + m = 10 + 2 * (it t b 9 - 1) → 10 ≤ k → But 402 μ ξ → (∀ j, ¬ (3 + 20 * b + 9 ≤ j ∧ j < 3 + 20 * b + k) → ξ 402 j = t j) → ξ 402 (3 + 20 * b + 9) = it t b 9 - 1 → (∀ j, 3 + 20 * b + 10 ≤ j → j < 3 + 20 * b + k → ξ 402 j = t (j + 2)) → B_X11_moves_148 G Q n ξ b (it t b 10) (it t b 11) k := by
          intro m
          induction m with
          | zero =>
            intro k ξ ek k10 hBx x1 x9 x2
            have x402 : ξ 402 = popP t b := by
              funext j
              unfold popP
              by_cases g1 : j = 3 + 20 * b + 9
              · rw [if_pos g1, g1]; exact x9
              · rw [if_neg g1]
                by_cases g2 : 3 + 20 * b + 10 ≤ j ∧ j < 3 + 20 * b + 10 + 2 * (it t b 9 - 1)
                · rw [if_pos g2]; exact x2 j g2.1 (by omega)
                · rw [if_neg g2]; exact x1 j (by omega)
            have x4 : ξ 400 = of := (hBx 400 (by decide)).trans e4
            have hsp := SR_pop ht htb' (by omega)
            have hSp := SameB_pop (s := t) hb.1 h95
            have e0 : it (popP t b) b 0 = it t b 0 := hSp.2 b 0 hb.1 (by decide) (by decide) (by omega)
            have ep9 : it (popP t b) b 9 = it t b 9 - 1 := by rw [popP_it h95 (by omega), if_pos (by omega)]
            have hbp : 0 ≤ b ∧ b < popP t b 2 := by rw [hSp.1 2 (by decide)]; exact htb'
            have earr : arrT of (popP t b) b (it t b 10) (it t b 11) = arrT of t b (it t b 10) (it t b 11) := by unfold arrT; rw [e0]
            refine b_X11_moves_148 hg (S_its hg (by omega) ?_)
            rw [x402, ep9]
            refine ⟨by omega, by omega, fun _ => ?_, fun z => absurd (by omega) z⟩
            refine S_arrival hg (by omega) (by omega) (by rw [x402, e0]; exact ⟨hT.1, hT.2.1⟩) (by rw [x4]; omega) (by rw [x4]; omega) (by omega) ?_
            rw [x4, x402, earr, hSp.1 0 (by decide)]
            have hstep : moveL of b (r + 1 + 1) t = moveL of b (r + 1) (if arrT of t b (it t b 10) (it t b 11) ≤ t 0 then landP of (popP t b) b (it t b 10) else boardP (popP t b) b (it t b 10) (it t b 11)) := if_pos hc
            rw [hstep] at hQ
            refine ⟨fun g => S_at hg (by omega) ⟨by omega, by omega, S_at hg (by omega) ⟨by omega, by omega, ?_⟩⟩, fun g => S_at hg (by omega) ⟨by omega, by omega, by omega, by omega, by omega, ?_⟩⟩
            · rw [if_neg (by omega)] at hQ
              have hS : SameB b t (boardP (popP t b) b (it t b 10) (it t b 11)) := hSp.tr (SameB_board hb.1)
              refine ih (boardP (popP t b) b (it t b 10) (it t b 11)) _ (SR_board hsp hbp hcc (by rw [e0]; exact hff)) (by rw [hS.1 2 (by decide)]; exact htb) ?_ hBx.up.up (by rw [up_row, up_row, x402]; rfl) hQ
              rw [show it (boardP (popP t b) b (it t b 10) (it t b 11)) b 9 = it (popP t b) b 9 from (it_set_ne (by omega) (by omega) (Or.inr (by decide))).trans (it_set_ne (by omega) (by omega) (Or.inr (by decide))), ep9]
              omega
            · rw [if_pos (by omega)] at hQ
              have hS : SameB b t (landP of (popP t b) b (it t b 10)) := hSp.tr (SameB_land hb.1)
              refine ih (landP of (popP t b) b (it t b 10)) _ (SR_land hp hsp hbp hcc) (by rw [hS.1 2 (by decide)]; exact htb) ?_ hBx.up (by rw [up_row, x402, x4]; rfl) hQ
              rw [show it (landP of (popP t b) b (it t b 10)) b 9 = it (popP t b) b 9 from it_set_ne (by omega) (by omega) (Or.inr (by decide)), ep9]
              omega
          | succ m ihm =>
            intro k ξ ek k10 hBx x1 x9 x2
            refine b_X11_moves_148 hg (S_its hg (by omega) ?_)
            rw [show it (ξ 402) b 9 = it t b 9 - 1 from x9]
            refine ⟨by omega, by omega, fun z => absurd z (by omega), fun _ => S_at hg (by omega) ⟨by omega, by omega, S_its hg (by omega) ⟨by omega, by omega, ihm (k + 1) _ (by omega) (by omega) hBx.up (fun j hj => ?_) ?_ (fun j j0 j1 => ?_)⟩⟩⟩
            · rw [up_oth (by omega)]
              exact x1 j (by omega)
            · rw [up_oth (by omega)]
              exact x9
            · by_cases ej : j = 3 + 20 * b + k
              · rw [ej, up_self]
                unfold it
                rw [x1 _ (by omega)]
                congr 1
                omega
              · rw [up_oth ej]
                exact x2 j j0 (by omega)
        refine sh (2 * (it t b 9 - 1)).toNat 10 _ (by omega) (by omega) hB.up (fun j hj => ?_) ?_ (fun j j0 j1 => by omega)
        · rw [up_oth (by omega), h2]
        · rw [up_self]
      · rw [h2] at c
        rw [moveL_0 (by omega)] at hQ
        exact hQ ν hB h2
  have hB0 := hs.2.2.2.2 b hb.1 hb.2
  have h95 := hB0.2.2.2.2.2.2.2.2.2.2.2.2.2.2.1
  refine m_X11_moves hg (S_isOn hg (by omega) (fun c => ⟨fun _ => ?_, fun z => absurd rfl z⟩) (fun c => ⟨fun z => absurd z (by decide), fun _ => ?_⟩))
  · rw [e2] at c
    refine loop 5 s μ hs hb.2 (by omega) But.rf e2 (fun ξ hB hx => q ξ hB ?_)
    rw [hx]
    unfold moveP
    rw [if_neg (fun z => z.1 c)]
  · rw [e2] at c
    have ho := hB0.2.2.2.2.2.2.2.2.2.2.2.2.1.resolve_left c
    have ho8 := hB0.2.2.2.2.2.2.2.2.2.2.2.2.2.2.2.2 c
    have hcf := hof _ ho.1 ho.2
    have hd := tkD_le hB0.1 hB0.2.1 hcf.2.2.2.2.2.2.2.2.2.1 hcf.2.2.2.2.2.2.2.2.2.2.1
    refine S_its hg (by omega) (S_its hg (by omega) (S_arrival hg (by omega) (by rw [e2]; omega) (by rw [e2]; exact ⟨hB0.1, hB0.2.1⟩) (by rw [e2, e4]; omega) (by rw [e2, e4]; omega) (by rw [e2]; omega) ?_))
    rw [e4, e2]
    refine ⟨fun g => ?_, fun g => S_at hg (by omega) ⟨by omega, S_its hg (by omega) ?_⟩⟩
    · refine loop 5 s μ hs hb.2 (by omega) But.rf e2 (fun ξ hB hx => q ξ hB ?_)
      rw [hx]
      unfold moveP
      rw [if_neg (fun z => absurd z.2 (by omega))]
    · rw [e2, e4]
      refine ⟨by omega, by omega, by omega, by omega, S_at hg (by omega) ⟨by omega, by omega, ?_⟩⟩
      have hS : SameB b s (offP of s b) := SameB_off hb.1
      refine loop 5 (offP of s b) _ (SR_off hp hs hb c) (by rw [hS.1 2 (by decide)]; exact hb.2) ?_ But.rf.up.up (by rw [up_row, up_row, e2]; rfl) (fun ξ hB hx => q ξ hB ?_)
      · rw [show it (offP of s b) b 9 = it s b 9 from (it_set_ne (by omega) (by omega) (Or.inr (by decide))).trans (it_set_ne (by omega) (by omega) (Or.inr (by decide)))]
        omega
      · rw [hx]
        unfold moveP
        rw [if_pos ⟨c, by omega⟩]
end Moves
