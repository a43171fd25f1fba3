-- the class: bundles arrive
def stB (a : Int) : Bool := !((SH a).1 == 0) || (decide (19 ≤ a) && decide (a + 3 ≤ 397))
theorem St_B {v : Int} (o : St v 0 9) : 19 ≤ v ∧ v + 3 ≤ 397 := by
  have := St_all (P := stB) (by decide +kernel) o
  unfold stB at this
  rw [o.2.2] at this
  simpa using this
theorem NRel_B {n : Nat} {μ ν : Mem} {v nd cn : Int} {of : Int → Int} (o : St v 0 9) (h : FrB v μ ν) (hN : NRel n μ 7 nd cn of) : NRel n ν 7 nd cn of := by
  have := St_B o
  exact NRel_keep (Nat.le_refl _) (h 7 (by omega)) (h (7 + 2) (by omega)) (fun p hp => h p (by omega)) hN
theorem moveL_more {of : Int → Int} {b : Int} (hb : 0 ≤ b) : ∀ (k : Nat) {s : Int → Int}, it s b 9 ≤ k → it s b 9 ≤ 5 → moveL of b (k + 1) s = moveL of b k s := by
  intro k
  induction k with
  | zero =>
    intro s h _
    exact if_neg (fun q => by have := q.2.1; omega)
  | succ k ih =>
    intro s h h5
    show moveL of b (k + 1 + 1) s = moveL of b (k + 1) s
    by_cases c : it s b 7 = -9 ∧ 0 < it s b 9 ∧ it s b 11 < s 0
    · rw [show moveL of b (k + 1 + 1) s = _ from if_pos c, show moveL of b (k + 1) s = _ from if_pos c]
      obtain ⟨p1, p2, p3⟩ := pop_f h5
      refine ih ?_ ?_
      · split
        · rw [show it (landP of (popP s b) b (it s b 10)) b 9 = it (popP s b) b 9 from it_set_ne (by omega) (by omega) (Or.inr (by decide)), p2]; omega
        · rw [show it (boardP (popP s b) b (it s b 10) (it s b 11)) b 9 = it (popP s b) b 9 from (it_set_ne (by omega) (by omega) (Or.inr (by decide))).trans (it_set_ne (by omega) (by omega) (Or.inr (by decide))), p2]; omega
      · split
        · rw [show it (landP of (popP s b) b (it s b 10)) b 9 = it (popP s b) b 9 from it_set_ne (by omega) (by omega) (Or.inr (by decide)), p2]; omega
        · rw [show it (boardP (popP s b) b (it s b 10) (it s b 11)) b 9 = it (popP s b) b 9 from (it_set_ne (by omega) (by omega) (Or.inr (by decide))).trans (it_set_ne (by omega) (by omega) (Or.inr (by decide))), p2]; omega
    · rw [moveL_0 c, moveL_0 c]
section Arr
variable {of : Int → Int} {b : Int} {s : Int → Int}
theorem moveP_none (h7 : it s b 7 = -9) (h9 : it s b 9 ≤ 0) : moveP of s b = s := by
  unfold moveP
  rw [if_neg (fun q => q.1 h7)]
  exact moveL_0 (fun q => by have := q.2.1; omega) 6
theorem moveP_on (h7 : it s b 7 ≠ -9) (h : s 0 < arrT of s b (it s b 7) (it s b 8)) : moveP of s b = s := by
  unfold moveP
  rw [if_neg (fun q => by have := q.2; omega)]
  exact moveL_0 (fun q => h7 q.1) 6
theorem moveP_off (h7 : it s b 7 ≠ -9) (h : arrT of s b (it s b 7) (it s b 8) ≤ s 0) : moveP of s b = moveP of (offP of s b) b := by
  have f7 : it (offP of s b) b 7 = -9 := it_set_at (by omega)
  unfold moveP
  rw [if_pos ⟨h7, h⟩, if_neg (fun q => q.1 f7)]
theorem moveP_land (hb : 0 ≤ b) (h5 : it s b 9 ≤ 5) (h7 : it s b 7 = -9) (h9 : 0 < it s b 9) (hl : it s b 11 < s 0) (h : arrT of s b (it s b 10) (it s b 11) ≤ s 0) : moveP of s b = moveP of (landP of (popP s b) b (it s b 10)) b := by
  obtain ⟨p1, p2, p3⟩ := pop_f h5
  have f : ∀ w, 0 ≤ w → w < 20 → w ≠ 4 → it (landP of (popP s b) b (it s b 10)) b w = it (popP s b) b w := fun w w0 w1 w4 => it_set_ne (by omega) ⟨w0, w1⟩ (Or.inr w4)
  have e7 : it (landP of (popP s b) b (it s b 10)) b 7 = -9 := by rw [f 7 (by decide) (by decide) (by decide), p1 7 (by decide) (by decide), h7]
  have e9 : it (landP of (popP s b) b (it s b 10)) b 9 = it s b 9 - 1 := by rw [f 9 (by decide) (by decide) (by decide), p2]
  unfold moveP
  rw [if_neg (fun q => q.1 h7), if_neg (fun q => q.1 e7)]
  have h1 : moveL of b 6 s = moveL of b 5 (landP of (popP s b) b (it s b 10)) := (show moveL of b (5 + 1) s = _ from if_pos ⟨h7, h9, hl⟩).trans (by rw [if_pos h])
  rw [h1]
  exact (moveL_more hb 5 (by rw [e9]; omega) (by rw [e9]; omega)).symm
theorem moveP_board (h5 : it s b 9 ≤ 5) (h7 : it s b 7 = -9) (h9 : 0 < it s b 9) (h10 : it s b 10 ≠ -9) (h : s 0 < arrT of s b (it s b 10) (it s b 11)) : moveP of s b = s ∨ moveP of s b = boardP (popP s b) b (it s b 10) (it s b 11) := by
  have f7 : it (boardP (popP s b) b (it s b 10) (it s b 11)) b 7 = it s b 10 := (it_set_ne (by omega) (by omega) (Or.inr (by decide))).trans (it_set_at (by omega))
  unfold moveP
  rw [if_neg (fun q => q.1 h7)]
  by_cases c : it s b 7 = -9 ∧ 0 < it s b 9 ∧ it s b 11 < s 0
  · refine Or.inr ((show moveL of b (5 + 1) s = _ from if_pos c).trans ?_)
    rw [if_neg (by omega)]
    exact moveL_0 (fun q => by rw [f7] at q; exact h10 q.1) 5
  · exact Or.inl (moveL_0 c 6)
end Arr
section Arrive
variable {G : GT} {n : Nat} {μ : Mem}
theorem S_arrive (hg : gx G = FX) {Q : Nat → Mem → Prop} {nd cn b v : Int} {of s : Int → Int} (o : St v 0 9) (hp : PW nd cn of) (hN : NRel n μ 7 nd cn of) (hs : SR nd cn of s) (hb : 0 ≤ b ∧ b < s 2) (hbr : BRel of s μ b v)
    (q : ∀ ν, FrB v μ ν → BRel of (moveP of s b) ν b v → ν v 8 = μ v 8 → Q n ν) : CV G Y_X0_arrive [.inr v, .inl (s 0)] n μ Q := by
  have hv := St_B o
  have hm8 := hs.2.2.2.1
  -- nothing more to do
  have idle : ∀ (d : Nat) (i : Int) (ν : Mem) (s' : Int → Int), i + d = 6 → 0 ≤ i → BR nd cn of s' b → BRel of s' ν b v → (rwN s' b = 0 ∨ s 0 < arrT of s' b (rwC s' b 0) (rwB s' b 0)) → Q n ν → B_X0_arrive_2 G Q n ν v (s 0) i := by
    intro d
    induction d with
    | zero => intro i ν s' e i0 _ _ _ hQ; exact b_X0_arrive_2 hg o ⟨fun _ => hQ, fun z => absurd (by omega) z⟩
    | succ d ih =>
      intro i ν s' e i0 hB hbr' hst hQ
      have hrN := rwN_in hB
      have h9 := hbr'.2.2.2.2.2.2.1
      have nx := ih (i + 1) ν s' (by omega) (by omega) hB hbr' hst hQ
      refine b_X0_arrive_2 hg o ⟨fun z => absurd z (by omega), fun _ => ⟨fun _ => ⟨by unfold inR; omega, nx⟩, fun z => S_cell hg o hB hbr' (by decide) (fun _ _ => ?_) (fun w => absurd ⟨by omega, by omega⟩ w)⟩⟩
      rw [if_neg (by decide), if_neg (by decide), if_neg (by decide)]
      exact ⟨fun _ => ⟨by unfold inR; omega, nx⟩, fun y => absurd (hst.resolve_left (by omega)) y⟩
  have key : ∀ (d : Nat) (i : Int) (ν : Mem) (s' : Int → Int), i + d = 6 → 0 ≤ i → SR nd cn of s' → SameB b s s' → rwN s' b ≤ d → moveP of s' b = moveP of s b → BRel of s' ν b v → FrB v μ ν → ν v 8 = μ v 8 → B_X0_arrive_2 G Q n ν v (s 0) i := by
    intro d
    induction d with
    | zero =>
      intro i ν s' e i0 hs' hS hd hmv hbr' hF h8
      have hB := hs'.2.2.2.2 b hb.1 (by rw [hS.1 2 (by decide)]; exact hb.2)
      have hrN := rwN_in hB
      have h90 := hB.2.2.2.2.2.2.2.2.2.2.2.2.2.1
      have hst : moveP of s' b = s' := by
        unfold rwN at hd hrN
        rcases onP_in s' b with ⟨h7, eo⟩ | ⟨h7, eo⟩
        · exact moveP_none h7 (by omega)
        · omega
      refine idle 0 i ν s' e i0 hB hbr' (Or.inl (by omega)) (q ν hF ?_ h8)
      rw [← hmv, hst]
      exact hbr'
    | succ d ih =>
      intro i ν s' e i0 hs' hS hd hmv hbr' hF h8
      have hb' : 0 ≤ b ∧ b < s' 2 := by rw [hS.1 2 (by decide)]; exact hb
      have e0 : s' 0 = s 0 := hS.1 0 (by decide)
      have hB := hs'.2.2.2.2 b hb'.1 hb'.2
      have hrN := rwN_in hB
      have h90 := hB.2.2.2.2.2.2.2.2.2.2.2.2.2.1
      have h95 := hB.2.2.2.2.2.2.2.2.2.2.2.2.2.2.1
      have h9 := hbr'.2.2.2.2.2.2.1
      -- no rows
      by_cases c0 : rwN s' b = 0
      · have hst : moveP of s' b = s' := by
          unfold rwN at c0
          rcases onP_in s' b with ⟨h7, eo⟩ | ⟨h7, eo⟩
          · exact moveP_none h7 (by omega)
          · omega
        refine idle (d + 1) i ν s' e i0 hB hbr' (Or.inl c0) (q ν hF ?_ h8)
        rw [← hmv, hst]
        exact hbr'
      · have hrow := row_ok hB (i := 0) (by decide) (by omega)
        have hof := hp.2.2.2.2 _ hrow.1 hrow.2.1
        have hd0 := tkD_le hB.1 hB.2.1 hof.2.2.2.2.2.2.2.2.2.1 hof.2.2.2.2.2.2.2.2.2.2.1
        by_cases c1 : s 0 < arrT of s' b (rwC s' b 0) (rwB s' b 0)
        · -- the first is not there yet
          refine idle (d + 1) i ν s' e i0 hB hbr' (Or.inr c1) (q ν hF ?_ h8)
          rw [← hmv]
          rcases onP_in s' b with ⟨h7, eo⟩ | ⟨h7, eo⟩
          · have hr := row_off h7 0
            rw [hr.1, hr.2] at c1
            rw [hr.1] at hrow
            unfold rwN at c0
            have e10 : hopC s' b 0 = it s' b 10 := rfl
            have e11 : hopB s' b 0 = it s' b 11 := rfl
            rw [e10] at hrow
            rw [e10, e11] at c1
            rcases moveP_board (of := of) h95 h7 (by omega) (by omega) (by omega) with em | em
            · rw [em]; exact hbr'
            · rw [em]
              obtain ⟨p1, p2, p3⟩ := pop_f h95
              have f : ∀ w, 0 ≤ w → w < 20 → w ≠ 7 → w ≠ 8 → it (boardP (popP s' b) b (it s' b 10) (it s' b 11)) b w = it (popP s' b) b w := fun w w0 w1 w7 w8 => (it_set_ne (by omega) ⟨w0, w1⟩ (Or.inr w8)).trans (it_set_ne (by omega) ⟨w0, w1⟩ (Or.inr w7))
              have f7 : it (boardP (popP s' b) b (it s' b 10) (it s' b 11)) b 7 = it s' b 10 := (it_set_ne (by omega) (by omega) (Or.inr (by decide))).trans (it_set_at (by omega))
              have f8 : it (boardP (popP s' b) b (it s' b 10) (it s' b 11)) b 8 = it s' b 11 := it_set_at (by omega)
              have f9 : it (boardP (popP s' b) b (it s' b 10) (it s' b 11)) b 9 = it s' b 9 - 1 := by rw [f 9 (by decide) (by decide) (by decide) (by decide), p2]
              have h7n : it (boardP (popP s' b) b (it s' b 10) (it s' b 11)) b 7 ≠ -9 := by rw [f7]; omega
              have hon := (onP_in (boardP (popP s' b) b (it s' b 10) (it s' b 11)) b).resolve_left (fun q => h7n q.1)
              have eN : rwN (boardP (popP s' b) b (it s' b 10) (it s' b 11)) b = rwN s' b := by unfold rwN; rw [hon.2, f9, eo]; omega
              refine BRel_rows hbr' hB (Or.inr trivial) (fun w w0 w1 w4 => (f w w0 (by omega) (by omega) (by omega)).trans (p1 w w0 (by omega))) (by rw [f 4 (by decide) (by decide) (by decide) (by decide), p1 4 (by decide) (by decide)]; exact hbr'.1) rfl rfl rfl rfl rfl 0 (by decide) (by omega) (by rw [eN]; exact h9) (fun i i0 i1 => ?_) (fun j _ _ => by rw [show j + 4 * 0 = j by omega])
              have hri := row_on h7n
              rw [Int.add_zero, (row_off h7 i).1, (row_off h7 i).2]
              by_cases ei : i = 0
              · rw [ei, hri.1, hri.2.1, f7, f8]
                exact ⟨rfl, rfl⟩
              · have h3 := p3 (i - 1) (by omega) (by rw [eN] at i1; unfold rwN at i1; omega)
                rw [(hri.2.2 i (by omega)).1, (hri.2.2 i (by omega)).2]
                rw [eN] at i1
                unfold rwN at i1
                rw [show hopC (boardP (popP s' b) b (it s' b 10) (it s' b 11)) b (i - 1) = hopC (popP s' b) b (i - 1) from f _ (by omega) (by omega) (by omega) (by omega), show hopB (boardP (popP s' b) b (it s' b 10) (it s' b 11)) b (i - 1) = hopB (popP s' b) b (i - 1) from f _ (by omega) (by omega) (by omega) (by omega), h3.1, h3.2, show i - 1 + 1 = i by omega]
                exact ⟨rfl, rfl⟩
          · have hr := row_on h7
            rw [hr.1, hr.2.1] at c1
            rw [moveP_on h7 (by omega)]
            exact hbr'
        · -- the first is there
          have hNν := NRel_B o hF hN
          refine b_X0_arrive_2 hg o ⟨fun z => absurd z (by omega), fun _ => ⟨fun z => absurd z (by omega), fun _ => S_cell hg o hB hbr' (by decide) (fun _ _ => ?_) (fun w => absurd ⟨by omega, by omega⟩ w)⟩⟩
          rw [if_neg (by decide), if_neg (by decide), if_neg (by decide)]
          refine ⟨fun y => absurd y c1, fun _ => S_cell hg o hB hbr' (by decide) (fun _ _ => ?_) (fun w => absurd ⟨by omega, by omega⟩ w)⟩
          rw [if_pos rfl]
          refine S_contactAt hg St_7 hNν hp.2.2.2.1 ⟨hrow.1, hrow.2.1⟩ (fun p hco hpk => ⟨hco, ?_⟩)
          rw [hpk 1 (by decide) (by decide)]
          have u9 : (up ν v 2 (cf of (rwC s' b 0) 1)) (v + 1) 2 = rwN s' b := by rw [up_ne (by omega)]; exact h9
          refine T_remove hg (Tb_B o) (by rw [u9]; omega) (by rw [u9]; omega) (fun ξ hx x2 xc => ⟨by unfold inR; omega, ?_⟩)
          rw [u9] at x2 xc
          have xv : ∀ k, ξ v k = (up ν v 2 (cf of (rwC s' b 0) 1)) v k := fun k => congrFun (hx.1 v (by omega) (by omega)) k
          have hFx : FrB v μ ξ := (hF.f).t hx
          have x8 : ξ v 8 = μ v 8 := by rw [xv, up_oth (by decide)]; exact h8
          have xcc : ∀ j, 0 ≤ j → j < 4 * (rwN s' b - 1) → ξ (v + 1 + 1) j = ν (v + 1 + 1) (j + 4 * 1) := fun j j0 j1 => by rw [xc j j0 j1, up_ne (by omega)]; rfl
          rcases onP_in s' b with ⟨h7, eo⟩ | ⟨h7, eo⟩
          · have hr := row_off h7 0
            have e10 : hopC s' b 0 = it s' b 10 := rfl
            have e11 : hopB s' b 0 = it s' b 11 := rfl
            rw [hr.1, e10] at hrow hof hd0
            rw [hr.1, hr.2, e10, e11] at c1
            rw [hr.1, e10] at xv
            rw [hr.2, e11] at hrow
            unfold rwN at c0
            obtain ⟨p1, p2, p3⟩ := pop_f h95
            have f : ∀ w, 0 ≤ w → w < 20 → w ≠ 4 → it (landP of (popP s' b) b (it s' b 10)) b w = it (popP s' b) b w := fun w w0 w1 w4 => it_set_ne (by omega) ⟨w0, w1⟩ (Or.inr w4)
            have f4 : it (landP of (popP s' b) b (it s' b 10)) b 4 = cf of (it s' b 10) 1 := it_set_at (by omega)
            have f7 : it (landP of (popP s' b) b (it s' b 10)) b 7 = -9 := by rw [f 7 (by decide) (by decide) (by decide), p1 7 (by decide) (by decide), h7]
            have f9 : it (landP of (popP s' b) b (it s' b 10)) b 9 = it s' b 9 - 1 := by rw [f 9 (by decide) (by decide) (by decide), p2]
            have hoff := (onP_in (landP of (popP s' b) b (it s' b 10)) b).resolve_right (fun q => q.1 f7)
            have eN : rwN (landP of (popP s' b) b (it s' b 10)) b = rwN s' b - 1 := by unfold rwN; rw [hoff.2, f9, eo]; omega
            have hl : it s' b 11 < s' 0 := by unfold arrT at c1; omega
            have hSp := SameB_pop (s := s') hb.1 h95
            refine ih (i + 1) ξ (landP of (popP s' b) b (it s' b 10)) (by omega) (by omega) (SR_land hp (SR_pop hs' hb' (by omega)) (by rw [hSp.1 2 (by decide)]; exact hb') ⟨hrow.1, hrow.2.1⟩) (hS.tr (hSp.tr (SameB_land hb.1))) (by omega) ?_ ?_ hFx x8
            · rw [← hmv]
              exact (moveP_land hb.1 h95 h7 (by omega) hl (by omega)).symm
            · refine BRel_rows hbr' hB (Or.inr trivial) (fun w w0 w1 w4 => (f w w0 (by omega) w4).trans (p1 w w0 (by omega))) (by rw [xv, up_self, f4]) (by rw [xv, up_oth (by decide)]) (by rw [xv, up_oth (by decide)]) (by rw [xv, up_oth (by decide)]) (by rw [xv, up_oth (by decide)]) (by rw [xv, up_oth (by decide)]) 1 (by decide) eN (by rw [x2, eN]) (fun i i0 i1 => ?_) (fun j j0 j1 => xcc j j0 (by rw [eN] at j1; exact j1))
              rw [eN] at i1
              unfold rwN at i1
              have h3 := p3 i i0 (by omega)
              rw [(row_off f7 i).1, (row_off f7 i).2, (row_off h7 (i + 1)).1, (row_off h7 (i + 1)).2, ← h3.1, ← h3.2]
              exact ⟨f _ (by omega) (by omega) (by omega), f _ (by omega) (by omega) (by omega)⟩
          · have hr := row_on h7
            rw [hr.1] at xv
            rw [hr.1, hr.2.1] at c1
            unfold rwN at c0
            have f : ∀ w, 0 ≤ w → w < 20 → w ≠ 4 → w ≠ 7 → it (offP of s' b) b w = it s' b w := fun w w0 w1 w4 w7 => (it_set_ne (by omega) ⟨w0, w1⟩ (Or.inr w7)).trans (it_set_ne (by omega) ⟨w0, w1⟩ (Or.inr w4))
            have f4 : it (offP of s' b) b 4 = cf of (it s' b 7) 1 := (it_set_ne (by omega) (by omega) (Or.inr (by decide))).trans (it_set_at (by omega))
            have f7 : it (offP of s' b) b 7 = -9 := it_set_at (by omega)
            have f9 : it (offP of s' b) b 9 = it s' b 9 := f 9 (by decide) (by decide) (by decide) (by decide)
            have hoff := (onP_in (offP of s' b) b).resolve_right (fun q => q.1 f7)
            have eN : rwN (offP of s' b) b = rwN s' b - 1 := by unfold rwN; rw [hoff.2, f9, eo]; omega
            refine ih (i + 1) ξ (offP of s' b) (by omega) (by omega) (SR_off hp hs' hb' h7) (hS.tr (SameB_off hb.1)) (by omega) ?_ ?_ hFx x8
            · rw [← hmv]
              exact (moveP_off h7 (by omega)).symm
            · refine BRel_rows hbr' hB (Or.inr trivial) (fun w w0 w1 w4 => f w w0 (by omega) w4 (by omega)) (by rw [xv, up_self, f4]) (by rw [xv, up_oth (by decide)]) (by rw [xv, up_oth (by decide)]) (by rw [xv, up_oth (by decide)]) (by rw [xv, up_oth (by decide)]) (by rw [xv, up_oth (by decide)]) 1 (by decide) eN (by rw [x2, eN]) (fun i i0 i1 => ?_) (fun j j0 j1 => xcc j j0 (by rw [eN] at j1; exact j1))
              rw [eN] at i1
              unfold rwN at i1
              rw [(row_off f7 i).1, (row_off f7 i).2, (hr.2.2 (i + 1) (by omega)).1, (hr.2.2 (i + 1) (by omega)).2, show i + 1 - 1 = i by omega]
              exact ⟨f _ (by omega) (by omega) (by omega) (by omega), f _ (by omega) (by omega) (by omega) (by omega)⟩
  have hB := hs.2.2.2.2 b hb.1 hb.2
  exact m_X0_arrive hg o (key 6 0 μ s (by decide) (by decide) hs SameB.rf (rwN_in hB).2 rfl hbr FrB.rf rfl)
end Arrive
