-- the class: bundles made, copied, moved
/-- a bundle's rows are those of other numbers, too -/
theorem BRel_rows {μ ν : Mem} {nd cn b v : Int} {of s s' : Int → Int} (hb : BRel of s μ b v) (hr : BR nd cn of s b) (h1 : ν v = μ v ∨ True) (e : ∀ w, 0 ≤ w → w < 6 → w ≠ 4 → it s' b w = it s b w) (h2 : ν v 2 = it s' b 4) (h3 : ν v 3 = μ v 3) (h4 : ν v 4 = μ v 4) (h5 : ν v 5 = μ v 5) (h6 : ν v 6 = μ v 6) (h7 : ν v 7 = μ v 7)
    (k : Int) (hk : 0 ≤ k) (hN : rwN s' b = rwN s b - k) (h9 : ν (v + 1) 2 = rwN s' b) (hC : ∀ i, 0 ≤ i → i < rwN s' b → rwC s' b i = rwC s b (i + k) ∧ rwB s' b i = rwB s b (i + k)) (hc : ∀ j, 0 ≤ j → j < 4 * rwN s' b → ν (v + 1 + 1) j = μ (v + 1 + 1) (j + 4 * k)) : BRel of s' ν b v := by
  obtain ⟨a2, a3, a4, a5, a6, a7, a9, ac⟩ := hb
  refine ⟨h2, by rw [h3, a3, e 1 (by decide) (by decide) (by decide)], by rw [h4, a4, e 0 (by decide) (by decide) (by decide)], by rw [h5, a5, e 2 (by decide) (by decide) (by decide)], by rw [h6, a6, e 3 (by decide) (by decide) (by decide)], by rw [h7, a7, e 5 (by decide) (by decide) (by decide)], h9, fun i i0 i1 => ?_⟩
  have h := ac (i + k) (by omega) (by omega)
  have g := hC i i0 i1
  rw [g.1, g.2, e 0 (by decide) (by decide) (by decide)]
  unfold arrT at h ⊢
  rw [e 0 (by decide) (by decide) (by decide), hc _ (by omega) (by omega), hc _ (by omega) (by omega), hc _ (by omega) (by omega), hc _ (by omega) (by omega)]
  rw [show 4 * i + 0 + 4 * k = 4 * (i + k) + 0 by omega, show 4 * i + 1 + 4 * k = 4 * (i + k) + 1 by omega, show 4 * i + 2 + 4 * k = 4 * (i + k) + 2 by omega, show 4 * i + 3 + 4 * k = 4 * (i + k) + 3 by omega]
  exact h
section Bundle2
variable {G : GT} {n : Nat} {μ : Mem}
theorem S_start (hg : gx G = FX) {Q : Nat → Mem → Prop} {v a1 a2 a3 a4 a5 : Int} (o : St v 0 9) (q : ∀ ν, FrB v μ ν → ν v 2 = a1 → ν v 3 = a2 → ν v 4 = a3 → ν v 5 = a4 → ν v 6 = a5 → ν v 7 = 0 → ν v 8 = 0 → ν (v + 1) 2 = 0 → Q n ν) : CV G Y_X0_start [.inr v, .inl a1, .inl a2, .inl a3, .inl a4, .inl a5] n μ Q := by
  refine m_X0_start hg o (T_cut0 hg (st_0_1 o) (q _ (FrB.rf.f.f.f.f.f.f.f.t ButT.rf.r) ?_ ?_ ?_ ?_ ?_ ?_ ?_ (up_self _ _ _ _)))
  all_goals rw [up_ne (by omega)]
  · rw [up_oth (by decide), up_oth (by decide), up_oth (by decide), up_oth (by decide), up_oth (by decide), up_oth (by decide), up_self]
  · rw [up_oth (by decide), up_oth (by decide), up_oth (by decide), up_oth (by decide), up_oth (by decide), up_self]
  · rw [up_oth (by decide), up_oth (by decide), up_oth (by decide), up_oth (by decide), up_self]
  · rw [up_oth (by decide), up_oth (by decide), up_oth (by decide), up_self]
  · rw [up_oth (by decide), up_oth (by decide), up_self]
  · rw [up_oth (by decide), up_self]
  · rw [up_self]
theorem S_copyB (hg : gx G = FX) {Q : Nat → Mem → Prop} {nd cn b v w : Int} {of s : Int → Int} (o : St v 0 9) (o' : St w 0 9) (hvw : v + 3 ≤ w ∨ w + 3 ≤ v) (hB : BR nd cn of s b) (hb : BRel of s μ b w) (q : ∀ ν, FrB v μ ν → BRel of s ν b v → ν v 8 = μ w 8 → Q n ν) : CV G Y_X0_copyFrom [.inr v, .inr w] n μ Q := by
  have hrN := rwN_in hB
  obtain ⟨a2, a3, a4, a5, a6, a7, a9, ac⟩ := hb
  refine m_X0_copyFrom hg o o' (S_start hg o (fun ν hF h2 h3 h4 h5 h6 h7 h8 h9 => ?_))
  have vw : ν w = μ w := hF w (by omega)
  have vw1 : ν (w + 1) = μ (w + 1) := hF (w + 1) (by omega)
  have vw2 : ν (w + 1 + 1) = μ (w + 1 + 1) := hF (w + 1 + 1) (by omega)
  refine fun h01 => ⟨h01, ?_⟩
  have x8 : (up ν v 7 (ν w 7)) w 8 = μ w 8 := by rw [up_ne (by omega), vw]
  rw [x8, vw]
  have e1 : ∀ r, r ≠ v → (up (up ν v 7 (μ w 7)) v 8 (μ w 8)) r = ν r := fun r hr => by rw [up_ne hr, up_ne hr]
  refine T_copy hg (Tb_B o) (Tb_B o') (by omega) (by rw [e1 (w + 1) (by omega), vw1, a9]; omega) (by rw [e1 (w + 1) (by omega), vw1, a9]; omega) (fun ξ hx x2 xc => ?_)
  rw [e1 (w + 1) (by omega), vw1] at x2 xc
  rw [e1 (w + 1 + 1) (by omega), vw2] at xc
  have xv : ∀ k, ξ v k = (up (up ν v 7 (μ w 7)) v 8 (μ w 8)) v k := fun k => congrFun (hx.1 v (by omega) (by omega)) k
  refine q ξ ((hF.f.f).t hx) ⟨?_, ?_, ?_, ?_, ?_, ?_, by rw [x2, a9], fun i i0 i1 => ?_⟩ (by rw [xv, up_self])
  · rw [xv, up_oth (by decide), up_oth (by decide), h2, a2]
  · rw [xv, up_oth (by decide), up_oth (by decide), h3, a3]
  · rw [xv, up_oth (by decide), up_oth (by decide), h4, a4]
  · rw [xv, up_oth (by decide), up_oth (by decide), h5, a5]
  · rw [xv, up_oth (by decide), up_oth (by decide), h6, a6]
  · rw [xv, up_oth (by decide), up_self, a7]
  · have h := ac i i0 i1
    rw [xc _ (by omega) (by omega), xc _ (by omega) (by omega), xc _ (by omega) (by omega), xc _ (by omega) (by omega)]
    exact h
theorem S_takes0 (hg : gx G = FX) {Q : Int → Nat → Mem → Prop} {nd cn b v c t : Int} {of s : Int → Int} (o : St v 0 9) (hB : BR nd cn of s b) (hb : BRel of s μ b v) (hc0 : 0 ≤ c) (q0 : ¬ TKb of s b c t → Q 0 n μ) (q1 : TKb of s b c t → Q 1 n μ) : CI G Y_X0_takes [.inr v, .inl c, .inl t] n μ Q := by
  have hrN := rwN_in hB
  have h90 := hB.2.2.2.2.2.2.2.2.2.2.2.2.2.1
  have h9 := hb.2.2.2.2.2.2.1
  -- a row takes it
  have row : ∀ i, 0 ≤ i → i < rwN s b → (rwC s b i = c ∧ rwB s b i ≤ t ∧ t < rwB s b i + tkD of (it s b 0) (rwC s b i)) → TKb of s b c t := by
    intro i i0 i1 h
    unfold rwN at i1
    rcases onP_in s b with ⟨h7, e⟩ | ⟨h7, e⟩
    · have hr := row_off h7 i
      rw [hr.1, hr.2] at h
      refine Or.inr ⟨i, i0, by omega, ?_⟩
      unfold HpT
      obtain ⟨g1, g2, g3⟩ := h
      rw [g1] at g3
      exact ⟨g1, g2, g3⟩
    · have hr := row_on h7
      by_cases ei : i = 0
      · rw [ei, hr.1, hr.2.1] at h
        refine Or.inl ?_
        unfold OnT
        obtain ⟨g1, g2, g3⟩ := h
        rw [g1] at g3
        exact ⟨g1, g2, g3⟩
      · have hri := hr.2.2 i (by omega)
        rw [hri.1, hri.2] at h
        refine Or.inr ⟨i - 1, by omega, by omega, ?_⟩
        unfold HpT
        obtain ⟨g1, g2, g3⟩ := h
        rw [g1] at g3
        exact ⟨g1, g2, g3⟩
  have all : TKb of s b c t → ∃ i, 0 ≤ i ∧ i < rwN s b ∧ rwC s b i = c ∧ rwB s b i ≤ t ∧ t < rwB s b i + tkD of (it s b 0) (rwC s b i) := by
    intro h
    unfold rwN
    rcases onP_in s b with ⟨h7, e⟩ | ⟨h7, e⟩
    · rcases h with h | ⟨k, k0, k1, h⟩
      · unfold OnT at h; omega
      · have hr := row_off h7 k
        refine ⟨k, k0, by omega, ?_⟩
        rw [hr.1, hr.2]
        unfold HpT at h
        obtain ⟨g1, g2, g3⟩ := h
        rw [g1]
        exact ⟨rfl, g2, g3⟩
    · have hr := row_on h7
      rcases h with h | ⟨k, k0, k1, h⟩
      · refine ⟨0, by decide, by omega, ?_⟩
        rw [hr.1, hr.2.1]
        unfold OnT at h
        obtain ⟨g1, g2, g3⟩ := h
        rw [g1]
        exact ⟨rfl, g2, g3⟩
      · have hrk := hr.2.2 (k + 1) (by omega)
        rw [show k + 1 - 1 = k by omega] at hrk
        refine ⟨k + 1, by omega, by omega, ?_⟩
        rw [hrk.1, hrk.2]
        unfold HpT at h
        obtain ⟨g1, g2, g3⟩ := h
        rw [g1]
        exact ⟨rfl, g2, g3⟩
  have key : ∀ (d : Nat) (i : Int), i + d = rwN s b → 0 ≤ i → (∀ j, 0 ≤ j → j < i → ¬ (rwC s b j = c ∧ rwB s b j ≤ t ∧ t < rwB s b j + tkD of (it s b 0) (rwC s b j))) → B_X0_takes_2 G Q n μ v c t i := by
    intro d
    induction d with
    | zero =>
      intro i e i0 h
      refine b_X0_takes_2 hg o ⟨fun _ => q0 (fun hT => ?_), fun z => absurd (by omega) z⟩
      obtain ⟨j, j0, j1, hj⟩ := all hT
      exact h j j0 (by omega) hj
    | succ d ih =>
      intro i e i0 h
      have next : ¬ (rwC s b i = c ∧ rwB s b i ≤ t ∧ t < rwB s b i + tkD of (it s b 0) (rwC s b i)) → inR (i + 1) ∧ B_X0_takes_2 G Q n μ v c t (i + 1) := fun hn => ⟨by unfold inR; omega, ih (i + 1) (by omega) (by omega) (fun j j0 j1 => by
        by_cases ej : j = i
        · rw [ej]; exact hn
        · exact h j j0 (by omega))⟩
      refine b_X0_takes_2 hg o ⟨fun z => absurd z (by omega), fun _ => S_cell hg o hB hb (by decide) (fun _ _ => ?_) (fun w => absurd ⟨i0, by omega⟩ w)⟩
      rw [if_pos rfl]
      refine ⟨fun z => next (fun h => z h.1), fun z => S_cell hg o hB hb (by decide) (fun _ _ => ?_) (fun w => absurd ⟨i0, by omega⟩ w)⟩
      rw [if_neg (by decide), if_pos rfl]
      refine ⟨fun y => next (fun h => by omega), fun y => S_cell hg o hB hb (by decide) (fun _ _ => ?_) (fun w => absurd ⟨i0, by omega⟩ w)⟩
      rw [if_neg (by decide), if_neg (by decide), if_pos rfl]
      exact ⟨fun x => next (fun h => by omega), fun x => q1 (row i i0 (by omega) ⟨z, by omega, by omega⟩)⟩
  exact m_X0_takes hg o (key (rwN s b).toNat 0 (by omega) (by decide) (fun j j0 j1 => by omega))
theorem S_prop (hg : gx G = FX) {Q : Int → Nat → Mem → Prop} {nd cn b v w : Int} {of s : Int → Int} (o : St v 0 9) (hp : PW nd cn of) (hN : NRel n μ 7 nd cn of) (hB : BR nd cn of s b) (hb : BRel of s μ b v) (hC : CH of s b) (hy : stateP of s b = 0 → μ v 8 = it s b 6) (hw : 0 ≤ w ∧ w ≤ 8) (q : Q (propP of s b w) n μ) : CI G Y_X0_property [.inr v, .inl w, .inl (s 0)] n μ Q := by
  have hb' := hb
  obtain ⟨a2, a3, a4, a5, a6, a7, a9, ac⟩ := hb'
  unfold propP at q
  refine m_X0_property hg o ⟨fun z => absurd z (by omega), fun z => ?_, fun z => ?_, fun z => ?_, fun z => ?_, fun z => ?_, fun z => ?_, fun z => ?_, fun z => ?_, fun z => ?_⟩
  · rw [if_pos z] at q
    exact S_standing hg o hp hN hB hb hC q
  · rw [if_neg (by omega), if_pos z] at q
    rw [a2]; exact q
  · rw [if_neg (by omega), if_neg (by omega), if_pos z] at q
    exact S_lastThere hg o hB hb q
  · rw [if_neg (by omega), if_neg (by omega), if_neg (by omega), if_pos z] at q
    rw [a9]; unfold rwN; rw [Int.add_comm]; exact q
  · rw [if_neg (by omega), if_neg (by omega), if_neg (by omega), if_neg (by omega), if_pos z] at q
    rw [a6]; exact q
  · rw [if_neg (by omega), if_neg (by omega), if_neg (by omega), if_neg (by omega), if_neg (by omega), if_pos z] at q
    rw [a4]; exact q
  · rw [if_neg (by omega), if_neg (by omega), if_neg (by omega), if_neg (by omega), if_neg (by omega), if_neg (by omega), if_pos z] at q
    rw [a5]; exact q
  · rw [if_neg (by omega), if_neg (by omega), if_neg (by omega), if_neg (by omega), if_neg (by omega), if_neg (by omega), if_neg (by omega), if_pos z] at q
    rw [a3]; exact q
  · rw [if_neg (by omega), if_neg (by omega), if_neg (by omega), if_neg (by omega), if_neg (by omega), if_neg (by omega), if_neg (by omega), if_neg (by omega)] at q
    refine S_standing hg o hp hN hB hb hC ⟨fun y => ?_, fun y => ?_⟩
    · rw [if_neg y] at q; exact q
    · rw [if_pos y] at q; rw [hy y]; exact q
end Bundle2
