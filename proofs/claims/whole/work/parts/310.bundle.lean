-- the class: network, bundles
def NRel (n : Nat) (μ : Mem) (v0 nd cn : Int) (of : Int → Int) : Prop := μ v0 3 = nd ∧ μ v0 2 = cn ∧ ∀ c, 0 ≤ c → c < cn → Co n (μ (v0 + 2) c) ∧ ∀ k, 0 ≤ k → k < 6 → μ (μ (v0 + 2) c) k = cf of c k
def coB (a : Int) : Bool := !((SH a).1 == 1) || (a == 5) || (a == 8)
theorem Co_place {n : Nat} {p : Int} (h : Co n p) : p = 5 ∨ p = 8 ∨ 415 ≤ p := by
  by_cases c : p < 415
  · have := St_all (P := coB) (a := p) (kd := 1) (N := 6) (by decide +kernel) ⟨h.1, c, h.2.2⟩
    unfold coB at this
    rw [h.2.2] at this
    simp at this
    omega
  · omega
/-- a network is as it was if its rows and the contacts are -/
theorem NRel_keep {n n' : Nat} {μ ν : Mem} {v0 nd cn : Int} {of : Int → Int} (hn : n ≤ n') (h0 : ν v0 = μ v0) (h2 : ν (v0 + 2) = μ (v0 + 2)) (hc : ∀ p : Int, p = 5 ∨ p = 8 ∨ (415 ≤ p ∧ p < n) → ν p = μ p) (h : NRel n μ v0 nd cn of) : NRel n' ν v0 nd cn of := by
  obtain ⟨a, b, c⟩ := h
  refine ⟨by rw [h0]; exact a, by rw [h0]; exact b, fun i i0 i1 => ?_⟩
  have := c i i0 i1
  have hp := Co_place this.1
  have hl := this.1.2.1
  rw [h2]
  refine ⟨⟨this.1.1, by omega, this.1.2.2⟩, fun k k0 k1 => ?_⟩
  rw [hc _ (by omega)]
  exact this.2 k k0 k1
/-- the rows of a bundle's table: the hop it is on its way on, then those to come -/
noncomputable def rwN (s : Int → Int) (b : Int) : Int := onP s b + it s b 9
noncomputable def rwC (s : Int → Int) (b i : Int) : Int := if it s b 7 = -9 then hopC s b i else if i = 0 then it s b 7 else hopC s b (i - 1)
noncomputable def rwB (s : Int → Int) (b i : Int) : Int := if it s b 7 = -9 then hopB s b i else if i = 0 then it s b 8 else hopB s b (i - 1)
def BRel (of s : Int → Int) (μ : Mem) (b v : Int) : Prop :=
  μ v 2 = it s b 4 ∧ μ v 3 = it s b 1 ∧ μ v 4 = it s b 0 ∧ μ v 5 = it s b 2 ∧ μ v 6 = it s b 3 ∧ μ v 7 = it s b 5 ∧ μ (v + 1) 2 = rwN s b ∧
  ∀ i, 0 ≤ i → i < rwN s b → μ (v + 1 + 1) (4 * i + 0) = rwC s b i ∧ μ (v + 1 + 1) (4 * i + 1) = rwB s b i ∧ μ (v + 1 + 1) (4 * i + 2) = rwB s b i + tkD of (it s b 0) (rwC s b i) ∧ μ (v + 1 + 1) (4 * i + 3) = arrT of s b (rwC s b i) (rwB s b i)
theorem onP_in (s : Int → Int) (b : Int) : (it s b 7 = -9 ∧ onP s b = 0) ∨ (it s b 7 ≠ -9 ∧ onP s b = 1) := by
  unfold onP
  by_cases h : it s b 7 = -9
  · rw [if_pos h]; exact Or.inl ⟨h, rfl⟩
  · rw [if_neg h]; exact Or.inr ⟨h, rfl⟩
section Rows
variable {nd cn b : Int} {of s : Int → Int}
theorem row_on (h : it s b 7 ≠ -9) : rwC s b 0 = it s b 7 ∧ rwB s b 0 = it s b 8 ∧ ∀ i, 0 < i → rwC s b i = hopC s b (i - 1) ∧ rwB s b i = hopB s b (i - 1) := by
  unfold rwC rwB
  refine ⟨by rw [if_neg h, if_pos rfl], by rw [if_neg h, if_pos rfl], fun i i0 => ⟨by rw [if_neg h, if_neg (by omega)], by rw [if_neg h, if_neg (by omega)]⟩⟩
theorem row_off (h : it s b 7 = -9) (i : Int) : rwC s b i = hopC s b i ∧ rwB s b i = hopB s b i := by
  unfold rwC rwB
  exact ⟨by rw [if_pos h], by rw [if_pos h]⟩
theorem row_ok (hr : BR nd cn of s b) {i : Int} (i0 : 0 ≤ i) (i1 : i < rwN s b) : 0 ≤ rwC s b i ∧ rwC s b i < cn ∧ 0 ≤ rwB s b i ∧ rwB s b i + tkD of (it s b 0) (rwC s b i) ≤ 99 := by
  have hon := hr.2.2.2.2.2.2.2.2.2.2.2.2.1
  have hh := hr.2.2.2.2.2.2.2.2.2.2.2.2.2.2.2.1
  have ho := hr.2.2.2.2.2.2.2.2.2.2.2.2.2.2.2.2
  unfold rwN at i1
  rcases onP_in s b with ⟨h7, e⟩ | ⟨h7, e⟩
  · have := row_off h7 i
    rw [this.1, this.2]
    exact hh i i0 (by omega)
  · have hr := row_on h7
    by_cases c : i = 0
    · rw [c, hr.1, hr.2.1]
      have := hon.resolve_left h7
      exact ⟨this.1, this.2, (ho h7).1, (ho h7).2⟩
    · have := hr.2.2 i (by omega)
      rw [this.1, this.2]
      exact hh (i - 1) (by omega) (by omega)
theorem rwN_in (hr : BR nd cn of s b) : 0 ≤ rwN s b ∧ rwN s b ≤ 6 := by
  have h90 := hr.2.2.2.2.2.2.2.2.2.2.2.2.2.1
  have h95 := hr.2.2.2.2.2.2.2.2.2.2.2.2.2.2.1
  unfold rwN
  rcases onP_in s b with ⟨h7, e⟩ | ⟨h7, e⟩ <;> omega
theorem hop_now (hp : PW nd cn of) (hr : BR nd cn of s b) (hc : CH of s b) (hn : NW of s b) : ∀ k, 0 ≤ k → k < it s b 9 → s 0 ≤ hopB s b k := by
  intro k k0
  obtain ⟨j, rfl⟩ := Int.eq_ofNat_of_zero_le k0
  clear k0
  induction j with
  | zero =>
    intro h9
    by_cases c : it s b 7 = -9
    · exact hn.2 c h9
    · have h1 := (hn.1 c).2
      have h2 := (hc.2.1 h9).2.2.1 c
      show s 0 ≤ hopB s b 0
      omega
  | succ j ih =>
    intro h9
    have i := ih (by omega)
    have h3 := (hc.2.2 j (by omega) h9).2
    have hh := hr.2.2.2.2.2.2.2.2.2.2.2.2.2.2.2.1 j (by omega) (by omega)
    have hof := hp.2.2.2.2 _ hh.1 hh.2.1
    have hd := tkD_le hr.1 hr.2.1 hof.2.2.2.2.2.2.2.2.2.1 hof.2.2.2.2.2.2.2.2.2.2.1
    unfold arrT at h3
    show s 0 ≤ hopB s b ((j : Int) + 1)
    omega
end Rows
/-- nothing but a bundle has changed -/
def FrB (v : Int) (μ ν : Mem) : Prop := ∀ r, ¬ (v ≤ r ∧ r < v + 3) → ν r = μ r
theorem FrB.rf {v : Int} {μ : Mem} : FrB v μ μ := fun _ _ => rfl
theorem FrB.tr {v : Int} {μ ν ξ : Mem} (h : FrB v μ ν) (h2 : FrB v ν ξ) : FrB v μ ξ := fun r hr => (h2 r hr).trans (h r hr)
theorem FrB.f {v k x : Int} {μ ν : Mem} (h : FrB v μ ν) : FrB v μ (up ν v k x) := fun r hr => by rw [up_ne (by omega)]; exact h r hr
theorem FrB.t {v : Int} {μ ν ξ : Mem} (h : FrB v μ ν) (h2 : ButT (v + 1) ν ξ) : FrB v μ ξ := fun r hr => by rw [h2.1 r (by omega) (by omega)]; exact h r hr
theorem Tb_B {v : Int} (o : St v 0 9) : Tb (v + 1) 4 6 := ⟨st_0_1 o, Or.inl ⟨rfl, rfl, by rw [(st_0_2 o).2.2]⟩⟩
section Bundle
variable {G : GT} {n : Nat} {μ : Mem}
theorem S_contactAt (hg : gx G = FX) {Q : Int → Nat → Mem → Prop} {v0 nd cn c : Int} {of : Int → Int} (o : St v0 3 4) (hN : NRel n μ v0 nd cn of) (h8 : cn ≤ 8) (hc : 0 ≤ c ∧ c < cn) (q : ∀ p, Co n p → (∀ k, 0 ≤ k → k < 6 → μ p k = cf of c k) → Q p n μ) : CR G Y_X3_contactAt [.inr v0, .inl c] n μ Q := by
  have h := hN.2.2 c hc.1 hc.2
  have h0 := h.1.1
  refine m_X3_contactAt hg o ⟨fun z => absurd z (by omega), fun _ => ⟨fun z => absurd z (by rw [hN.2.1]; omega), fun _ => ⟨fun _ => ⟨by omega, fun _ => ⟨h0, q _ h.1 h.2⟩, fun z => absurd z (by omega)⟩, fun z => absurd z (by omega)⟩⟩⟩
theorem T_cut0 (hg : gx G = FX) {Q : Nat → Mem → Prop} {a : Int} (hT : St a 8 3) (q : Q n (up μ a 2 0)) : CV G Y_X8_cut [.inr a, .inl 0] n μ Q := by
  refine m_X8_cut hg hT ?_
  have e : (if 0 < (if (0 : Int) < μ a 2 then 0 else μ a 2) then (if (0 : Int) < μ a 2 then 0 else μ a 2) else 0) = 0 := by
    split
    · split
      · rfl
      · omega
    · rfl
  rw [e]
  exact q
/-- a cell of a bundle's table -/
theorem S_cell (hg : gx G = FX) {Q : Int → Nat → Mem → Prop} {b v i k : Int} {nd cn : Int} {of s : Int → Int} (o : St v 0 9) (hB : BR nd cn of s b) (hb : BRel of s μ b v) (hk : 0 ≤ k ∧ k < 4) (q1 : 0 ≤ i → i < rwN s b → Q (if k = 0 then rwC s b i else if k = 1 then rwB s b i else if k = 2 then rwB s b i + tkD of (it s b 0) (rwC s b i) else arrT of s b (rwC s b i) (rwB s b i)) n μ) (q0 : ¬ (0 ≤ i ∧ i < rwN s b) → Q (-9) n μ) : CI G Y_X8_at [.inr (v + 1), .inl i, .inl k] n μ Q := by
  have hN := rwN_in hB
  obtain ⟨-, -, -, -, -, -, h9, hc⟩ := hb
  refine T_at hg (Tb_B o) (by omega) (fun i0 i1 _ _ => ?_) (fun z => q0 (by omega))
  have h := hc i i0 (by omega)
  have q := q1 i0 (by omega)
  by_cases c0 : k = 0
  · rw [c0] at q ⊢; rw [if_pos rfl] at q; rw [h.1]; exact q
  · rw [if_neg c0] at q
    by_cases c1 : k = 1
    · rw [c1] at q ⊢; rw [if_pos rfl] at q; rw [h.2.1]; exact q
    · rw [if_neg c1] at q
      by_cases c2 : k = 2
      · rw [c2] at q ⊢; rw [if_pos rfl] at q; rw [h.2.2.1]; exact q
      · rw [if_neg c2] at q
        have c3 : k = 3 := by omega
        rw [c3, h.2.2.2]; exact q
theorem S_lastNode (hg : gx G = FX) {Q : Int → Nat → Mem → Prop} {nd cn b v : Int} {of s : Int → Int} (o : St v 0 9) (hp : PW nd cn of) (hN : NRel n μ 7 nd cn of) (hB : BR nd cn of s b) (hb : BRel of s μ b v) (q : Q (leadsP of s b) n μ) : CI G Y_X0_lastNode [.inr v] n μ Q := by
  have hb' := hb
  obtain ⟨h2, -, -, -, -, -, h9, hc⟩ := hb'
  have hrN := rwN_in hB
  have h90 := hB.2.2.2.2.2.2.2.2.2.2.2.2.2.1
  unfold leadsP at q
  refine m_X0_lastNode hg o ⟨fun z => ⟨by unfold inR; omega, ?_⟩, fun z => ?_⟩
  · refine S_cell hg o hB hb (by decide) (fun i0 i1 => ?_) (fun w => absurd ⟨by omega, by omega⟩ w)
    rw [if_pos rfl]
    have hro := row_ok hB i0 i1
    refine S_contactAt hg St_7 hN hp.2.2.2.1 ⟨hro.1, hro.2.1⟩ (fun p hco hpk => ⟨hco, ?_⟩)
    rw [hpk 1 (by decide) (by decide)]
    have e : cf of (rwC s b (μ (v + 1) 2 - 1)) 1 = (if it s b 9 ≤ 0 then (if it s b 7 = -9 then it s b 4 else cf of (it s b 7) 1) else cf of (it s b (10 + 2 * it s b 9 - 2)) 1) := by
      rw [h9]
      unfold rwN
      rcases onP_in s b with ⟨h7, e⟩ | ⟨h7, e⟩
      · unfold rwN at h9
        rw [if_neg (by omega), (row_off h7 _).1, e]
        unfold hopC
        rw [show 10 + 2 * (0 + it s b 9 - 1) = 10 + 2 * it s b 9 - 2 by omega]
      · by_cases c : it s b 9 ≤ 0
        · rw [if_pos c, if_neg h7, e, show 1 + it s b 9 - 1 = 0 by omega, (row_on h7).1]
        · rw [if_neg c, e, ((row_on h7).2.2 _ (by omega)).1]
          unfold hopC
          rw [show 10 + 2 * (1 + it s b 9 - 1 - 1) = 10 + 2 * it s b 9 - 2 by omega]
    rw [e]
    exact q
  · unfold rwN at h9
    rcases onP_in s b with ⟨h7, e⟩ | ⟨h7, e⟩
    · rw [if_pos (by omega), if_pos h7] at q
      rw [h2]
      exact q
    · omega
theorem S_lastThere (hg : gx G = FX) {Q : Int → Nat → Mem → Prop} {nd cn b v : Int} {of s : Int → Int} (o : St v 0 9) (hB : BR nd cn of s b) (hb : BRel of s μ b v) (q : Q (endP of s b) n μ) : CI G Y_X0_lastThere [.inr v] n μ Q := by
  have hb' := hb
  obtain ⟨h2, -, -, -, -, -, h9, hc⟩ := hb'
  have hrN := rwN_in hB
  have h90 := hB.2.2.2.2.2.2.2.2.2.2.2.2.2.1
  unfold endP at q
  refine m_X0_lastThere hg o ⟨by unfold inR; omega, S_cell hg o hB hb (by decide) (fun i0 i1 => ?_) (fun w => ?_)⟩
  · rw [if_neg (by decide), if_neg (by decide), if_neg (by decide)]
    have e : arrT of s b (rwC s b (μ (v + 1) 2 - 1)) (rwB s b (μ (v + 1) 2 - 1)) = (if it s b 9 ≤ 0 then (if it s b 7 = -9 then -9 else arrT of s b (it s b 7) (it s b 8)) else arrT of s b (hopC s b (it s b 9 - 1)) (hopB s b (it s b 9 - 1))) := by
      rw [h9] at i0 ⊢
      unfold rwN at i0 ⊢
      rcases onP_in s b with ⟨h7, e⟩ | ⟨h7, e⟩
      · rw [if_neg (by omega), (row_off h7 _).1, (row_off h7 _).2, e, show 0 + it s b 9 - 1 = it s b 9 - 1 by omega]
      · by_cases c : it s b 9 ≤ 0
        · rw [if_pos c, if_neg h7, e, show 1 + it s b 9 - 1 = 0 by omega, (row_on h7).1, (row_on h7).2.1]
        · rw [if_neg c, e, ((row_on h7).2.2 _ (by omega)).1, ((row_on h7).2.2 _ (by omega)).2, show 1 + it s b 9 - 1 - 1 = it s b 9 - 1 by omega]
    rw [e]
    exact q
  · unfold rwN at h9 w
    rcases onP_in s b with ⟨h7, e⟩ | ⟨h7, e⟩
    · rw [if_pos (by omega), if_pos h7] at q
      exact q
    · omega
theorem S_standing (hg : gx G = FX) {Q : Int → Nat → Mem → Prop} {nd cn b v : Int} {of s : Int → Int} (o : St v 0 9) (hp : PW nd cn of) (hN : NRel n μ 7 nd cn of) (hB : BR nd cn of s b) (hb : BRel of s μ b v) (hC : CH of s b) (q : Q (stateP of s b) n μ) : CI G Y_X0_standing [.inr v, .inl (s 0)] n μ Q := by
  have hb' := hb
  obtain ⟨h2, h3, h4, h5, h6, h7, -⟩ := hb'
  unfold stateP at q
  refine m_X0_standing hg o ⟨fun z => ?_, fun z => ?_⟩
  · rw [h2, h3] at z
    rw [if_neg (fun w => z w.2)] at q
    rw [h7, h5]
    refine fun _ => ⟨fun z7 => ?_, fun z7 => ?_⟩
    · rw [if_neg (by omega)] at q
      refine ⟨fun z5 => S_lastNode hg o hp hN hB hb ?_, fun z5 => ?_⟩
      · rw [if_neg (by omega)] at q
        rw [h3]
        refine ⟨fun y => ?_, fun y => ?_⟩
        · rw [if_neg y] at q; exact q
        · rw [if_pos y] at q; exact q
      · rw [if_pos (by omega)] at q; exact q
    · have := hB.2.2.2.2.2.2.2.2.2.2.1
      rw [if_pos (by omega)] at q; exact q
  · rw [h2, h3] at z
    have h7' : it s b 7 = -9 := by
      by_cases c : it s b 7 = -9
      · exact c
      · exact absurd z (hC.1 c)
    rw [if_pos ⟨h7', z⟩] at q
    exact q
theorem S_onWay2 (hg : gx G = FX) {Q : Int → Nat → Mem → Prop} {nd cn b v : Int} {of s : Int → Int} (o : St v 0 9) (hB : BR nd cn of s b) (hb : BRel of s μ b v) (hW : NW of s b) (q : Q (onP s b) n μ) : CI G Y_X0_hopsOnTheirWay [.inr v, .inl (s 0)] n μ Q := by
  have hb' := hb
  obtain ⟨h2, -, -, -, -, -, h9, hc⟩ := hb'
  have hrN := rwN_in hB
  have h90 := hB.2.2.2.2.2.2.2.2.2.2.2.2.2.1
  refine m_X0_hopsOnTheirWay hg o ⟨fun z => ?_, fun z => S_cell hg o hB hb (by decide) (fun i0 i1 => ?_) (fun w => absurd ⟨by omega, by omega⟩ w)⟩
  · unfold rwN at h9
    rcases onP_in s b with ⟨h7, e⟩ | ⟨h7, e⟩
    · rw [e] at q; exact q
    · omega
  · rw [if_neg (by decide), if_pos rfl]
    unfold rwN at h9
    rcases onP_in s b with ⟨h7, e⟩ | ⟨h7, e⟩
    · have := hW.2 h7 (by omega)
      rw [(row_off h7 0).2]
      rw [e] at q
      exact ⟨fun _ => q, fun y => absurd this y⟩
    · have := (hW.1 h7).1
      rw [(row_on h7).2.1]
      rw [e] at q
      exact ⟨fun y => absurd y (by omega), fun _ => q⟩
theorem S_onWay (hg : gx G = FX) {Q : Int → Nat → Mem → Prop} {nd cn b v : Int} {of s : Int → Int} (o : St v 0 9) (_hp : PW nd cn of) (hB : BR nd cn of s b) (hb : BRel of s μ b v) (_hC : CH of s b) (hW : NW of s b) (q : Q (onP s b) n μ) : CI G Y_X0_hopsOnTheirWay [.inr v, .inl (s 0)] n μ Q := S_onWay2 hg o hB hb hW q
/-- the hops to come are given up -/
theorem BRel_give {nd cn b v : Int} {of s : Int → Int} {ν : Mem} (_hB : BR nd cn of s b) (hb : BRel of s μ b v) (h1 : ∀ k, k ≠ 8 → ν v k = μ v k) (h2 : ν (v + 1) 2 = onP s b) (h3 : ∀ j, 0 ≤ j → j < 4 * onP s b → ν (v + 1 + 1) j = μ (v + 1 + 1) j) : BRel of (giveP s b) ν b v := by
  obtain ⟨a2, a3, a4, a5, a6, a7, a9, ac⟩ := hb
  have f : ∀ w, 0 ≤ w → w < 20 → w ≠ 9 → it (giveP s b) b w = it s b w := fun w w0 w1 w9 => it_set_ne (by omega) ⟨w0, w1⟩ (Or.inr w9)
  have e9 : it (giveP s b) b 9 = 0 := it_set_at (by omega)
  have eo : onP (giveP s b) b = onP s b := by unfold onP; rw [f 7 (by decide) (by decide) (by decide)]
  have eN : rwN (giveP s b) b = onP s b := by unfold rwN; rw [eo, e9]; omega
  refine ⟨by rw [h1 2 (by decide), a2, f 4 (by decide) (by decide) (by decide)], by rw [h1 3 (by decide), a3, f 1 (by decide) (by decide) (by decide)], by rw [h1 4 (by decide), a4, f 0 (by decide) (by decide) (by decide)], by rw [h1 5 (by decide), a5, f 2 (by decide) (by decide) (by decide)], by rw [h1 6 (by decide), a6, f 3 (by decide) (by decide) (by decide)], by rw [h1 7 (by decide), a7, f 5 (by decide) (by decide) (by decide)], by rw [h2, eN], fun i i0 i1 => ?_⟩
  rw [eN] at i1
  rcases onP_in s b with ⟨h7, e⟩ | ⟨h7, e⟩
  · omega
  · have i00 : i = 0 := by omega
    subst i00
    have h7' : it (giveP s b) b 7 ≠ -9 := by rw [f 7 (by decide) (by decide) (by decide)]; exact h7
    have hr := row_on h7'
    have hr0 := row_on h7
    have ha := ac 0 (by decide) (by unfold rwN; have := _hB.2.2.2.2.2.2.2.2.2.2.2.2.2.1; omega)
    rw [hr0.1, hr0.2.1] at ha
    rw [hr.1, hr.2.1, f 7 (by decide) (by decide) (by decide), f 8 (by decide) (by decide) (by decide), f 0 (by decide) (by decide) (by decide)]
    unfold arrT at ha ⊢
    rw [f 0 (by decide) (by decide) (by decide), h3 _ (by decide) (by omega), h3 _ (by decide) (by omega), h3 _ (by decide) (by omega), h3 _ (by decide) (by omega)]
    exact ha
theorem S_giveUp (hg : gx G = FX) {Q : Nat → Mem → Prop} {nd cn b v : Int} {of s : Int → Int} (o : St v 0 9) (hB : BR nd cn of s b) (hb : BRel of s μ b v) (hW : NW of s b) (q : ∀ ν, FrB v μ ν → ν v = μ v → BRel of (giveP s b) ν b v → Q n ν) : CV G Y_X0_giveUpHopsToCome [.inr v, .inl (s 0)] n μ Q := by
  have hrN := rwN_in hB
  have h9 := hb.2.2.2.2.2.2.1
  have h90 := hB.2.2.2.2.2.2.2.2.2.2.2.2.2.1
  have hon := onP_in s b
  refine m_X0_giveUpHopsToCome hg o (S_onWay2 hg o hB hb hW (T_cut hg (st_0_1 o) (by omega) (by omega) ?_))
  have e : (if onP s b < μ (v + 1) 2 then onP s b else μ (v + 1) 2) = onP s b := by
    unfold rwN at h9
    split <;> omega
  rw [e]
  refine q _ (FrB.rf.t ButT.rf.r) (up_ne (by omega)) (BRel_give hB hb (fun k _ => by rw [up_ne (by omega)]) (up_self _ _ _ _) (fun j _ _ => by rw [up_ne (by omega)]))
end Bundle
