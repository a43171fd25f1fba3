-- ticks that pass keep what holds
section Pass
variable {nd cn b : Int} {of : Int → Int}
theorem pop_f {s : Int → Int} (h9 : it s b 9 ≤ 5) : (∀ w, 0 ≤ w → w < 9 → it (popP s b) b w = it s b w) ∧ it (popP s b) b 9 = it s b 9 - 1 ∧ ∀ k, 0 ≤ k → k < it s b 9 - 1 → hopC (popP s b) b k = hopC s b (k + 1) ∧ hopB (popP s b) b k = hopB s b (k + 1) := by
  refine ⟨fun w w0 w1 => by rw [popP_it h9 (by omega), if_neg (by omega), if_neg (by omega)], by rw [popP_it h9 (by omega), if_pos (by omega)], fun k k0 k1 => ?_⟩
  unfold hopC hopB
  rw [popP_it h9 (by omega), if_neg (by omega), if_pos (by omega), popP_it h9 (by omega), if_neg (by omega), if_pos (by omega)]
  exact ⟨by congr 1; omega, by congr 1; omega⟩
theorem CH_land {s : Int → Int} (h90 : 0 < it s b 9) (h95 : it s b 9 ≤ 5) (h7 : it s b 7 = -9) (hc : CH of s b) : CH of (landP of (popP s b) b (it s b 10)) b := by
  obtain ⟨p1, p2, p3⟩ := pop_f h95
  have f : ∀ w, 0 ≤ w → w < 20 → w ≠ 4 → it (landP of (popP s b) b (it s b 10)) b w = it (popP s b) b w := fun w w0 w1 w4 => it_set_ne (by omega) ⟨w0, w1⟩ (Or.inr w4)
  have f4 : it (landP of (popP s b) b (it s b 10)) b 4 = cf of (it s b 10) 1 := it_set_at (by omega)
  have e7 : it (landP of (popP s b) b (it s b 10)) b 7 = -9 := by rw [f 7 (by decide) (by decide) (by decide), p1 7 (by decide) (by decide), h7]
  have e9 : it (landP of (popP s b) b (it s b 10)) b 9 = it s b 9 - 1 := by rw [f 9 (by decide) (by decide) (by decide), p2]
  have e : ∀ w, 0 ≤ w → w < 9 → w ≠ 4 → it (landP of (popP s b) b (it s b 10)) b w = it s b w := fun w w0 w1 w4 => (f w w0 (by omega) w4).trans (p1 w w0 w1)
  have ea : ∀ c t, arrT of (landP of (popP s b) b (it s b 10)) b c t = arrT of s b c t := fun c t => by unfold arrT; rw [e 0 (by decide) (by decide) (by decide)]
  have eh : ∀ k, 0 ≤ k → k < it s b 9 - 1 → hopC (landP of (popP s b) b (it s b 10)) b k = hopC s b (k + 1) ∧ hopB (landP of (popP s b) b (it s b 10)) b k = hopB s b (k + 1) := fun k k0 k1 => by
    have := p3 k k0 k1
    exact ⟨(f _ (by omega) (by omega) (by omega)).trans this.1, (f _ (by omega) (by omega) (by omega)).trans this.2⟩
  obtain ⟨c1, c2, c3⟩ := hc
  have c2 := c2 h90
  refine ⟨fun q => absurd e7 q, fun h => ?_, fun k k0 k1 => ?_⟩
  · rw [e9] at h ⊢
    have hl := eh (it s b 9 - 1 - 1) (by omega) (by omega)
    rw [hl.1, hl.2, e 1 (by decide) (by decide) (by decide), e 5 (by decide) (by decide) (by decide), e 2 (by decide) (by decide) (by decide), ea, ea, show it s b 9 - 1 - 1 + 1 = it s b 9 - 1 by omega]
    refine ⟨?_, c2.2.1, fun q => absurd e7 q, c2.2.2.2⟩
    unfold nodeP
    rw [if_pos e7, f4]
    exact (c3 0 (by decide) (by omega)).1
  · rw [e9] at k1
    rw [(eh k k0 (by omega)).1, (eh k k0 (by omega)).2, (eh (k + 1) (by omega) (by omega)).2, ea, e 1 (by decide) (by decide) (by decide)]
    exact c3 (k + 1) (by omega) (by omega)
theorem CH_board {s : Int → Int} (h90 : 0 < it s b 9) (h95 : it s b 9 ≤ 5) (h7 : it s b 7 = -9) (hc : CH of s b) (h10 : it s b 10 ≠ -9) : CH of (boardP (popP s b) b (it s b 10) (it s b 11)) b := by
  obtain ⟨p1, p2, p3⟩ := pop_f h95
  have f : ∀ w, 0 ≤ w → w < 20 → w ≠ 7 → w ≠ 8 → it (boardP (popP s b) b (it s b 10) (it s b 11)) b w = it (popP s b) b w := fun w w0 w1 w7 w8 => (it_set_ne (by omega) ⟨w0, w1⟩ (Or.inr w8)).trans (it_set_ne (by omega) ⟨w0, w1⟩ (Or.inr w7))
  have f7 : it (boardP (popP s b) b (it s b 10) (it s b 11)) b 7 = it s b 10 := (it_set_ne (by omega) (by omega) (Or.inr (by decide))).trans (it_set_at (by omega))
  have f8 : it (boardP (popP s b) b (it s b 10) (it s b 11)) b 8 = it s b 11 := it_set_at (by omega)
  have e9 : it (boardP (popP s b) b (it s b 10) (it s b 11)) b 9 = it s b 9 - 1 := by rw [f 9 (by decide) (by decide) (by decide) (by decide), p2]
  have e : ∀ w, 0 ≤ w → w < 9 → w ≠ 7 → w ≠ 8 → it (boardP (popP s b) b (it s b 10) (it s b 11)) b w = it s b w := fun w w0 w1 w7 w8 => (f w w0 (by omega) w7 w8).trans (p1 w w0 w1)
  have ea : ∀ c t, arrT of (boardP (popP s b) b (it s b 10) (it s b 11)) b c t = arrT of s b c t := fun c t => by unfold arrT; rw [e 0 (by decide) (by decide) (by decide) (by decide)]
  have eh : ∀ k, 0 ≤ k → k < it s b 9 - 1 → hopC (boardP (popP s b) b (it s b 10) (it s b 11)) b k = hopC s b (k + 1) ∧ hopB (boardP (popP s b) b (it s b 10) (it s b 11)) b k = hopB s b (k + 1) := fun k k0 k1 => by
    have := p3 k k0 k1
    exact ⟨(f _ (by omega) (by omega) (by omega) (by omega)).trans this.1, (f _ (by omega) (by omega) (by omega) (by omega)).trans this.2⟩
  obtain ⟨c1, c2, c3⟩ := hc
  have c2 := c2 h90
  have hnode : it s b 4 ≠ it s b 1 := by
    have := c2.1
    unfold nodeP at this
    rw [if_pos h7] at this
    exact this
  refine ⟨fun _ => by rw [e 4 (by decide) (by decide) (by decide) (by decide), e 1 (by decide) (by decide) (by decide) (by decide)]; exact hnode, fun h => ?_, fun k k0 k1 => ?_⟩
  · rw [e9] at h ⊢
    have hl := eh (it s b 9 - 1 - 1) (by omega) (by omega)
    rw [hl.1, hl.2, e 1 (by decide) (by decide) (by decide) (by decide), e 5 (by decide) (by decide) (by decide) (by decide), e 2 (by decide) (by decide) (by decide) (by decide), ea, ea, f7, f8, show it s b 9 - 1 - 1 + 1 = it s b 9 - 1 by omega, (eh 0 (by decide) (by omega)).2]
    have h3 := c3 0 (by decide) (by omega)
    refine ⟨?_, c2.2.1, fun _ => h3.2, c2.2.2.2⟩
    unfold nodeP
    rw [f7, if_neg h10]
    exact h3.1
  · rw [e9] at k1
    rw [(eh k k0 (by omega)).1, (eh k k0 (by omega)).2, (eh (k + 1) (by omega) (by omega)).2, ea, e 1 (by decide) (by decide) (by decide) (by decide)]
    exact c3 (k + 1) (by omega) (by omega)
theorem CH_off {s : Int → Int} (h95 : it s b 9 ≤ 5) (h7 : it s b 7 ≠ -9) (hc : CH of s b) : CH of (offP of s b) b := by
  have f : ∀ w, 0 ≤ w → w < 20 → w ≠ 4 → w ≠ 7 → it (offP of s b) b w = it s b w := fun w w0 w1 w4 w7 => (it_set_ne (by omega) ⟨w0, w1⟩ (Or.inr w7)).trans (it_set_ne (by omega) ⟨w0, w1⟩ (Or.inr w4))
  have f4 : it (offP of s b) b 4 = cf of (it s b 7) 1 := (it_set_ne (by omega) (by omega) (Or.inr (by decide))).trans (it_set_at (by omega))
  have f7 : it (offP of s b) b 7 = -9 := it_set_at (by omega)
  have ea : ∀ c t, arrT of (offP of s b) b c t = arrT of s b c t := fun c t => by unfold arrT; rw [f 0 (by decide) (by decide) (by decide) (by decide)]
  have eh : ∀ k, 0 ≤ k → k < it s b 9 → hopC (offP of s b) b k = hopC s b k ∧ hopB (offP of s b) b k = hopB s b k := fun k k0 k1 => ⟨f _ (by omega) (by omega) (by omega) (by omega), f _ (by omega) (by omega) (by omega) (by omega)⟩
  have e9 := f 9 (by decide) (by decide) (by decide) (by decide)
  obtain ⟨c1, c2, c3⟩ := hc
  refine ⟨fun q => absurd f7 q, fun h => ?_, fun k k0 k1 => ?_⟩
  · rw [e9] at h ⊢
    have c2 := c2 h
    have hl := eh (it s b 9 - 1) (by omega) (by omega)
    rw [hl.1, hl.2, f 1 (by decide) (by decide) (by decide) (by decide), f 5 (by decide) (by decide) (by decide) (by decide), f 2 (by decide) (by decide) (by decide) (by decide), ea, ea]
    refine ⟨?_, c2.2.1, fun q => absurd f7 q, c2.2.2.2⟩
    have := c2.1
    unfold nodeP at this ⊢
    rw [if_neg h7] at this
    rw [if_pos f7, f4]
    exact this
  · rw [e9] at k1
    rw [(eh k k0 (by omega)).1, (eh k k0 (by omega)).2, (eh (k + 1) (by omega) k1).2, ea, f 1 (by decide) (by decide) (by decide) (by decide)]
    exact c3 k k0 k1
theorem moveL_inv (hp : PW nd cn of) : ∀ (r : Nat) {s : Int → Int}, SR nd cn of s → 0 ≤ b ∧ b < s 2 → CH of s b → (it s b 7 ≠ -9 → it s b 8 < s 0 ∧ s 0 < arrT of s b (it s b 7) (it s b 8)) → it s b 9 ≤ r → CH of (moveL of b r s) b ∧ NW of (moveL of b r s) b ∧ (∀ c t, 0 ≤ c → TKb of (moveL of b r s) b c t → TKb of s b c t) := by
  intro r
  induction r with
  | zero =>
    intro s hs hb hc hn h9
    exact ⟨hc, ⟨hn, fun _ h => by have h' : 0 < it s b 9 := h; omega⟩, fun c t _ h => h⟩
  | succ r ih =>
    intro s hs hb hc hn h9
    unfold moveL
    by_cases c : it s b 7 = -9 ∧ 0 < it s b 9 ∧ it s b 11 < s 0
    · rw [if_pos c]
      have hB := hs.2.2.2.2 b hb.1 hb.2
      have h95 := hB.2.2.2.2.2.2.2.2.2.2.2.2.2.2.1
      have hh := hB.2.2.2.2.2.2.2.2.2.2.2.2.2.2.2.1 0 (by decide) c.2.1
      have hcc : 0 ≤ it s b 10 ∧ it s b 10 < cn := ⟨hh.1, hh.2.1⟩
      have hsp := SR_pop hs hb c.2.1
      have hSp := SameB_pop (s := s) hb.1 h95
      have e0 : it (popP s b) b 0 = it s b 0 := hSp.2 b 0 hb.1 (by decide) (by decide) (by omega)
      have hbp : 0 ≤ b ∧ b < popP s b 2 := by rw [hSp.1 2 (by decide)]; exact hb
      obtain ⟨p1, p2, p3⟩ := pop_f h95
      by_cases d : arrT of s b (it s b 10) (it s b 11) ≤ s 0
      · rw [if_pos d]
        have hS : SameB b s (landP of (popP s b) b (it s b 10)) := hSp.tr (SameB_land hb.1)
        have f : ∀ w, 0 ≤ w → w < 20 → w ≠ 4 → it (landP of (popP s b) b (it s b 10)) b w = it (popP s b) b w := fun w w0 w1 w4 => it_set_ne (by omega) ⟨w0, w1⟩ (Or.inr w4)
        have e7 : it (landP of (popP s b) b (it s b 10)) b 7 = -9 := by rw [f 7 (by decide) (by decide) (by decide), p1 7 (by decide) (by decide), c.1]
        have e9 : it (landP of (popP s b) b (it s b 10)) b 9 = it s b 9 - 1 := by rw [f 9 (by decide) (by decide) (by decide), p2]
        have i := ih (s := landP of (popP s b) b (it s b 10)) (SR_land hp hsp hbp hcc) (by rw [hS.1 2 (by decide)]; exact hb) (CH_land c.2.1 h95 c.1 hc) (fun q => absurd e7 q) (by omega)
        refine ⟨i.1, i.2.1, fun c' t hc' hT => ?_⟩
        rcases i.2.2 c' t hc' hT with q | ⟨k, k0, k1, k2⟩
        · have := q.1; omega
        · rw [e9] at k1
          refine Or.inr ⟨k + 1, by omega, by omega, ?_⟩
          unfold HpT at k2 ⊢
          have h3 := p3 k k0 k1
          rw [show hopC (landP of (popP s b) b (it s b 10)) b k = hopC (popP s b) b k from f _ (by omega) (by omega) (by omega), show hopB (landP of (popP s b) b (it s b 10)) b k = hopB (popP s b) b k from f _ (by omega) (by omega) (by omega), h3.1, h3.2, f 0 (by decide) (by decide) (by decide), e0] at k2
          exact k2
      · rw [if_neg d]
        have hS : SameB b s (boardP (popP s b) b (it s b 10) (it s b 11)) := hSp.tr (SameB_board hb.1)
        have f : ∀ w, 0 ≤ w → w < 20 → w ≠ 7 → w ≠ 8 → it (boardP (popP s b) b (it s b 10) (it s b 11)) b w = it (popP s b) b w := fun w w0 w1 w7 w8 => (it_set_ne (by omega) ⟨w0, w1⟩ (Or.inr w8)).trans (it_set_ne (by omega) ⟨w0, w1⟩ (Or.inr w7))
        have f7 : it (boardP (popP s b) b (it s b 10) (it s b 11)) b 7 = it s b 10 := (it_set_ne (by omega) (by omega) (Or.inr (by decide))).trans (it_set_at (by omega))
        have f8 : it (boardP (popP s b) b (it s b 10) (it s b 11)) b 8 = it s b 11 := it_set_at (by omega)
        have e9 : it (boardP (popP s b) b (it s b 10) (it s b 11)) b 9 = it s b 9 - 1 := by rw [f 9 (by decide) (by decide) (by decide) (by decide), p2]
        have i := ih (s := boardP (popP s b) b (it s b 10) (it s b 11)) (SR_board hsp hbp hcc (by rw [e0]; exact hh.2.2)) (by rw [hS.1 2 (by decide)]; exact hb) (CH_board c.2.1 h95 c.1 hc (by omega)) (fun _ => by
          rw [f7, f8, hS.1 0 (by decide)]
          unfold arrT at d ⊢
          rw [f 0 (by decide) (by decide) (by decide) (by decide), e0]
          exact ⟨c.2.2, by omega⟩) (by omega)
        refine ⟨i.1, i.2.1, fun c' t hc' hT => ?_⟩
        rcases i.2.2 c' t hc' hT with q | ⟨k, k0, k1, k2⟩
        · refine Or.inr ⟨0, by decide, c.2.1, ?_⟩
          unfold OnT at q
          rw [f7, f8, f 0 (by decide) (by decide) (by decide) (by decide), e0] at q
          exact q
        · rw [e9] at k1
          refine Or.inr ⟨k + 1, by omega, by omega, ?_⟩
          unfold HpT at k2 ⊢
          have h3 := p3 k k0 k1
          rw [show hopC (boardP (popP s b) b (it s b 10) (it s b 11)) b k = hopC (popP s b) b k from f _ (by omega) (by omega) (by omega) (by omega), show hopB (boardP (popP s b) b (it s b 10) (it s b 11)) b k = hopB (popP s b) b k from f _ (by omega) (by omega) (by omega) (by omega), h3.1, h3.2, f 0 (by decide) (by decide) (by decide) (by decide), e0] at k2
          exact k2
    · rw [if_neg c]
      exact ⟨hc, ⟨hn, fun h7 h90 => by
        have : ¬ it s b 11 < s 0 := fun q => c ⟨h7, h90, q⟩
        show s 0 ≤ it s b 11
        omega⟩, fun c t _ h => h⟩
theorem moveP_inv (hp : PW nd cn of) {s : Int → Int} (hs : SR nd cn of s) (hb : 0 ≤ b ∧ b < s 2) (hc : CH of s b) (hn : it s b 7 ≠ -9 → it s b 8 < s 0) : CH of (moveP of s b) b ∧ NW of (moveP of s b) b ∧ (∀ c t, 0 ≤ c → TKb of (moveP of s b) b c t → TKb of s b c t) := by
  have hB := hs.2.2.2.2 b hb.1 hb.2
  have h95 := hB.2.2.2.2.2.2.2.2.2.2.2.2.2.2.1
  unfold moveP
  by_cases c : it s b 7 ≠ -9 ∧ arrT of s b (it s b 7) (it s b 8) ≤ s 0
  · rw [if_pos c]
    have hS : SameB b s (offP of s b) := SameB_off hb.1
    have f : ∀ w, 0 ≤ w → w < 20 → w ≠ 4 → w ≠ 7 → it (offP of s b) b w = it s b w := fun w w0 w1 w4 w7 => (it_set_ne (by omega) ⟨w0, w1⟩ (Or.inr w7)).trans (it_set_ne (by omega) ⟨w0, w1⟩ (Or.inr w4))
    have f7 : it (offP of s b) b 7 = -9 := it_set_at (by omega)
    have i := moveL_inv hp 6 (SR_off hp hs hb c.1) (by rw [hS.1 2 (by decide)]; exact hb) (CH_off h95 c.1 hc) (fun q => absurd f7 q) (by rw [f 9 (by decide) (by decide) (by decide) (by decide)]; omega)
    refine ⟨i.1, i.2.1, fun c' t hc' hT => ?_⟩
    rcases i.2.2 c' t hc' hT with q | ⟨k, k0, k1, k2⟩
    · have := q.1; omega
    · rw [f 9 (by decide) (by decide) (by decide) (by decide)] at k1
      refine Or.inr ⟨k, k0, k1, ?_⟩
      unfold HpT at k2 ⊢
      rw [show hopC (offP of s b) b k = hopC s b k from f _ (by omega) (by omega) (by omega) (by omega), show hopB (offP of s b) b k = hopB s b k from f _ (by omega) (by omega) (by omega) (by omega), f 0 (by decide) (by decide) (by decide) (by decide)] at k2
      exact k2
  · rw [if_neg c]
    exact moveL_inv hp 6 hs hb hc (fun q => ⟨hn q, by
      have : ¬ arrT of s b (it s b 7) (it s b 8) ≤ s 0 := fun z => c ⟨q, z⟩
      omega⟩) (by omega)
end Pass
noncomputable def passP (of s : Int → Int) (k : Int) : Int → Int := moveAll of (set1 s 0 (s 0 + k)) (s 2).toNat
theorem SR_now {nd cn t : Int} {of s : Int → Int} (h : SR nd cn of s) (ht : 0 ≤ t ∧ t ≤ 99) : SR nd cn of (set1 s 0 t) := by
  obtain ⟨h1, h2, h3, h4, h5⟩ := h
  unfold SR
  rw [set1_at, show set1 s 0 t 2 = s 2 from set1_ne (by omega)]
  exact ⟨ht.1, ht.2, h3, h4, fun b b0 b1 => BR_same (fun w w0 w1 => set1_ne (by omega)) (h5 b b0 b1)⟩
theorem passP_SV {nd cn k : Int} {of s : Int → Int} (hp : PW nd cn of) (hs : SV nd cn of s) (hk : 0 ≤ k ∧ s 0 + k ≤ 99) : SV nd cn of (passP of s k) := by
  have hs0 := hs.1.1
  have hm0 := hs.1.2.2.1
  have hR := SR_now (t := s 0 + k) hs.1 (by omega)
  have n0 : set1 s 0 (s 0 + k) 0 = s 0 + k := set1_at _ _ _
  have n2 : set1 s 0 (s 0 + k) 2 = s 2 := set1_ne (by decide)
  have ni : ∀ o w, 0 ≤ o → 0 ≤ w → it (set1 s 0 (s 0 + k)) o w = it s o w := fun o w o0 w0 => set1_ne (by omega)
  have key : ∀ (j : Nat), (j : Int) ≤ s 2 → (∀ b, 0 ≤ b → b < s 2 → CH of (moveAll of (set1 s 0 (s 0 + k)) j) b ∧ (b < j → NW of (moveAll of (set1 s 0 (s 0 + k)) j) b) ∧ (j ≤ b → it (moveAll of (set1 s 0 (s 0 + k)) j) b 7 ≠ -9 → it (moveAll of (set1 s 0 (s 0 + k)) j) b 8 < moveAll of (set1 s 0 (s 0 + k)) j 0) ∧ ∀ c t, 0 ≤ c → TKb of (moveAll of (set1 s 0 (s 0 + k)) j) b c t → TKb of s b c t) := by
    intro j
    induction j with
    | zero =>
      intro _ b b0 b1
      have hb := hs.2.1 b b0 b1
      have hB := hs.1.2.2.2.2 b b0 b1
      have eq : EqB s (set1 s 0 (s 0 + k)) b := fun w w0 w1 _ => ni b w b0 w0
      refine ⟨CH_eq eq hB hb.1, fun h => by omega, fun _ h => ?_, fun c t _ h => (TKb_eq eq hB).mp h⟩
      show it (set1 s 0 (s 0 + k)) b 8 < set1 s 0 (s 0 + k) 0
      have h' : it (set1 s 0 (s 0 + k)) b 7 ≠ -9 := h
      rw [ni b 7 b0 (by decide)] at h'
      rw [ni b 8 b0 (by decide), n0]
      have := hb.2.1 h'
      omega
    | succ j ih =>
      intro hj b b0 b1
      have i := ih (by omega)
      have hok := moveAll_ok hp hR j (by rw [n2]; omega)
      have hbj : (0 : Int) ≤ j ∧ (j : Int) < moveAll of (set1 s 0 (s 0 + k)) j 2 := by rw [hok.2.1 2 (by decide), n2]; omega
      have hmv := moveP_ok hp hok.1 hbj
      have ij := i j (by omega) (by omega)
      have hinv := moveP_inv hp hok.1 hbj ij.1 (ij.2.2.1 (by omega))
      by_cases e : b = j
      · rw [e]
        exact ⟨hinv.1, fun _ => hinv.2.1, fun h => by omega, fun c t hc h => ij.2.2.2 c t hc (hinv.2.2 c t hc h)⟩
      · have ib := i b b0 b1
        have eq : EqB (moveAll of (set1 s 0 (s 0 + k)) j) (moveAll of (set1 s 0 (s 0 + k)) (j + 1)) b := fun w w0 w1 _ => hmv.2.2 b w b0 w0 w1 (Or.inl e)
        have hB := hok.1.2.2.2.2 b b0 (by rw [hok.2.1 2 (by decide), n2]; exact b1)
        have l0 : moveAll of (set1 s 0 (s 0 + k)) (j + 1) 0 = moveAll of (set1 s 0 (s 0 + k)) j 0 := hmv.2.1 0 (by decide)
        refine ⟨CH_eq eq hB ib.1, fun h => NW_eq eq l0 hB (ib.2.1 (by omega)), fun h => ?_, fun c t hc h => ib.2.2.2 c t hc ((TKb_eq eq hB).mp h)⟩
        rw [eq 7 (by decide) (by decide) (by decide), eq 8 (by decide) (by decide) (by decide), l0]
        exact ib.2.2.1 (by omega)
  have hfin := key (s 2).toNat (by omega)
  have hok := moveAll_ok hp hR (s 2).toNat (by rw [n2]; omega)
  have e2 : passP of s k 2 = s 2 := (hok.2.1 2 (by decide)).trans n2
  refine ⟨hok.1, fun b b0 b1 => ?_, fun b o c t b0 b1 o0 o1 hne hc h1 h2 => ?_⟩
  · rw [e2] at b1
    have := hfin b b0 b1
    exact ⟨this.1, this.2.1 (by omega)⟩
  · rw [e2] at b1 o1
    exact hs.2.2 b o c t b0 b1 o0 o1 hne hc ((hfin b b0 b1).2.2.2 c t hc h1) ((hfin o o0 o1).2.2.2 c t hc h2)
section PassS
variable {G : GT} {n : Nat} {μ : Mem}
theorem S_passes (hg : gx G = FX) {Q : Int → Nat → Mem → Prop} {k : Int} (hM : MI μ) (q1 : ¬ (1 ≤ k ∧ k ≤ 99) → Q (-1) n (up μ 399 0 0)) (q2 : 1 ≤ k ∧ k ≤ 99 → 99 < μ 402 0 + k → Q (-2) n (up μ 399 0 0))
    (q3 : 1 ≤ k ∧ k ≤ 99 → μ 402 0 + k ≤ 99 → ∀ ν e, FrA μ ν → isD (μ 399 8) e → ν 402 = passP (μ 400) (μ 402) k → NoteP μ ν e → Q (μ 402 0 + k) n ν) : CI G Y_X11_passes [.inr 399, .inl k] n μ Q := by
  have hM' := hM.th
  have f0 : FrA μ (up μ 399 0 0) := FrA.th
  have e2 : (up μ 399 0 0) 402 = μ 402 := up_ne (by decide)
  have e4 : (up μ 399 0 0) 400 = μ 400 := up_ne (by decide)
  have e8 : (up μ 399 0 0) 399 8 = μ 399 8 := up_oth (by decide)
  refine m_X11_passes hg ?_
  have hnote : ∀ ξ d, NoteP (up μ 399 0 0) ξ d → NoteP μ ξ d := fun ξ d h => h.th
  generalize up μ 399 0 0 = μ1 at hM' f0 e2 e4 e8 q1 q2 hnote ⊢
  obtain ⟨hp, hs, hu, hms⟩ := hM'
  have hm8 := hs.2.2.2.1
  have hm0 := hs.2.2.1
  have hs0 := hs.1
  have hs9 := hs.2.1
  rw [← e2] at q2 q3
  rw [← e4, ← e8] at q3
  refine S_in hg (fun c => ⟨fun z => absurd rfl z, fun _ => q1 c⟩) (fun c => ⟨fun _ => ⟨by omega, fun c2 => ?_, fun c2 => q2 c (by omega)⟩, fun z => absurd z (by decide)⟩)
  refine S_notes hg hu (fun ν e hF he hN => ?_)
  have n2 : ν 402 = μ1 402 := hF.1 402 (by decide) (by decide)
  have n4 : ν 400 = μ1 400 := hF.1 400 (by decide) (by decide)
  rw [n2]
  have hR := SR_now (t := μ1 402 0 + k) hs (by omega)
  have x2 : (up ν 402 0 (μ1 402 0 + k)) 402 = set1 (μ1 402) 0 (μ1 402 0 + k) := by rw [up_row, n2]
  have x4 : (up ν 402 0 (μ1 402 0 + k)) 400 = μ1 400 := by rw [up_ne (by decide), n4]
  have hB0 : But 402 ν (up ν 402 0 (μ1 402 0 + k)) := But.rf.up
  generalize up ν 402 0 (μ1 402 0 + k) = ξ at x2 x4 hB0 ⊢
  refine ⟨by omega, ?_⟩
  have m0 : set1 (μ1 402) 0 (μ1 402 0 + k) 0 = μ1 402 0 + k := set1_at _ _ _
  have m2 : set1 (μ1 402) 0 (μ1 402 0 + k) 2 = μ1 402 2 := set1_ne (by decide)
  have key : ∀ (d j : Nat) (ζ : Mem), (j : Int) + d = μ1 402 2 → But 402 ν ζ → ζ 402 = moveAll (μ1 400) (set1 (μ1 402) 0 (μ1 402 0 + k)) j → B_X11_passes_49 G Q n ζ j := by
    intro d
    induction d with
    | zero =>
      intro j ζ ej hB hz
      have ej : j = (μ1 402 2).toNat := by omega
      subst ej
      have hok := moveAll_ok hp hR (μ1 402 2).toNat (by rw [m2]; omega)
      refine b_X11_passes_49 hg ⟨fun _ => ?_, fun z => absurd (by rw [hz, hok.2.1 2 (by decide), m2]; omega) z⟩
      rw [show ζ 402 0 = μ1 402 0 + k by rw [hz, hok.2.1 0 (by decide), m0]]
      exact q3 c c2 ζ e ((f0.n hF).b (Or.inl rfl) hB) he hz ((hnote ν e hN).to (hB 403 (by decide)) (congrFun (hB 399 (by decide)) 8))
    | succ d ih =>
      intro j ζ ej hB hz
      have hok := moveAll_ok hp hR j (by rw [m2]; omega)
      have hjb : (0 : Int) ≤ j ∧ (j : Int) < moveAll (μ1 400) (set1 (μ1 402) 0 (μ1 402 0 + k)) j 2 := by rw [hok.2.1 2 (by decide), m2]; omega
      refine b_X11_passes_49 hg ⟨fun z => absurd z (by rw [hz]; omega), fun _ => S_moves hg hp hok.1 hjb ((hB 400 (by decide)).trans n4) hz (fun η hBη hη => ⟨by omega, ih (j + 1) η (by omega) (hB.tr hBη) hη⟩)⟩
  exact key (μ1 402 2).toNat 0 ξ (by omega) hB0 x2
end PassS
