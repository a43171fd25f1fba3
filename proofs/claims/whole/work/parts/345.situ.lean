-- the class: situations moved on, losing a contact, finding one, with one more bundle
theorem stateP_cong {of s s' : Int → Int} {b : Int} (e : ∀ w, 0 ≤ w → w < 20 → w ≠ 6 → it s' b w = it s b w) (h0 : s' 0 = s 0) (h95 : it s b 9 ≤ 5) : stateP of s' b = stateP of s b := by
  have hl : leadsP of s' b = leadsP of s b := by
    unfold leadsP
    rw [e 9 (by decide) (by decide) (by decide), e 7 (by decide) (by decide) (by decide), e 4 (by decide) (by decide) (by decide)]
    by_cases c : it s b 9 ≤ 0
    · rw [if_pos c, if_pos c]
    · rw [if_neg c, if_neg c, e _ (by omega) (by omega) (by omega)]
  unfold stateP
  rw [hl, e 7 (by decide) (by decide) (by decide), e 4 (by decide) (by decide) (by decide), e 1 (by decide) (by decide) (by decide), e 5 (by decide) (by decide) (by decide), e 2 (by decide) (by decide) (by decide), h0]
theorem stateP_wait {of s : Int → Int} {b : Int} : stateP of s b = 0 ↔ (stateP of s b ≤ 1 ∧ leadsP of s b ≠ it s b 1) := by
  have h := stateP_open (of := of) (s := s) (b := b)
  constructor
  · intro q
    refine ⟨by omega, fun c => ?_⟩
    have h1 := h.mp (by omega)
    unfold stateP at q
    rw [if_neg h1.1, if_neg h1.2.1, if_neg (by omega), if_pos c] at q
    omega
  · intro q
    have h1 := h.mp q.1
    unfold stateP
    rw [if_neg h1.1, if_neg h1.2.1, if_neg (by omega), if_neg q.2]
section Leads
variable {nd cn b : Int} {of : Int → Int}
theorem leads_land {s : Int → Int} (h90 : 0 < it s b 9) (h95 : it s b 9 ≤ 5) (h7 : it s b 7 = -9) : leadsP of (landP of (popP s b) b (it s b 10)) b = leadsP of s b := by
  obtain ⟨p1, p2, p3⟩ := pop_f h95
  have f : ∀ w, 0 ≤ w → w < 20 → w ≠ 4 → it (landP of (popP s b) b (it s b 10)) b w = it (popP s b) b w := fun w w0 w1 w4 => it_set_ne (by omega) ⟨w0, w1⟩ (Or.inr w4)
  have f4 : it (landP of (popP s b) b (it s b 10)) b 4 = cf of (it s b 10) 1 := it_set_at (by omega)
  unfold leadsP
  rw [f 9 (by decide) (by decide) (by decide), p2, f 7 (by decide) (by decide) (by decide), p1 7 (by decide) (by decide), f4, if_pos h7, if_neg (show ¬ it s b 9 ≤ 0 by omega)]
  by_cases c : it s b 9 - 1 ≤ 0
  · rw [if_pos c, show 10 + 2 * it s b 9 - 2 = 10 by omega]
  · rw [if_neg c, f _ (by omega) (by omega) (by omega)]
    have h3 := (p3 (it s b 9 - 1 - 1) (by omega) (by omega)).1
    unfold hopC at h3
    rw [show 10 + 2 * (it s b 9 - 1) - 2 = 10 + 2 * (it s b 9 - 1 - 1) by omega, h3, show 10 + 2 * (it s b 9 - 1 - 1 + 1) = 10 + 2 * it s b 9 - 2 by omega]
theorem leads_board {s : Int → Int} (h90 : 0 < it s b 9) (h95 : it s b 9 ≤ 5) (h10 : it s b 10 ≠ -9) : leadsP of (boardP (popP s b) b (it s b 10) (it s b 11)) b = leadsP of s b := by
  obtain ⟨p1, p2, p3⟩ := pop_f h95
  have f : ∀ w, 0 ≤ w → w < 20 → w ≠ 7 → w ≠ 8 → it (boardP (popP s b) b (it s b 10) (it s b 11)) b w = it (popP s b) b w := fun w w0 w1 w7 w8 => (it_set_ne (by omega) ⟨w0, w1⟩ (Or.inr w8)).trans (it_set_ne (by omega) ⟨w0, w1⟩ (Or.inr w7))
  have f7 : it (boardP (popP s b) b (it s b 10) (it s b 11)) b 7 = it s b 10 := (it_set_ne (by omega) (by omega) (Or.inr (by decide))).trans (it_set_at (by omega))
  unfold leadsP
  rw [f 9 (by decide) (by decide) (by decide) (by decide), p2, f7, if_neg h10, if_neg (show ¬ it s b 9 ≤ 0 by omega)]
  by_cases c : it s b 9 - 1 ≤ 0
  · rw [if_pos c, show 10 + 2 * it s b 9 - 2 = 10 by omega]
  · rw [if_neg c, f _ (by omega) (by omega) (by omega) (by omega)]
    have h3 := (p3 (it s b 9 - 1 - 1) (by omega) (by omega)).1
    unfold hopC at h3
    rw [show 10 + 2 * (it s b 9 - 1) - 2 = 10 + 2 * (it s b 9 - 1 - 1) by omega, h3, show 10 + 2 * (it s b 9 - 1 - 1 + 1) = 10 + 2 * it s b 9 - 2 by omega]
theorem leads_off {s : Int → Int} (h95 : it s b 9 ≤ 5) (h7 : it s b 7 ≠ -9) : leadsP of (offP of s b) b = leadsP of s b := by
  have f : ∀ w, 0 ≤ w → w < 20 → w ≠ 4 → w ≠ 7 → it (offP of s b) b w = it s b w := fun w w0 w1 w4 w7 => (it_set_ne (by omega) ⟨w0, w1⟩ (Or.inr w7)).trans (it_set_ne (by omega) ⟨w0, w1⟩ (Or.inr w4))
  have f4 : it (offP of s b) b 4 = cf of (it s b 7) 1 := (it_set_ne (by omega) (by omega) (Or.inr (by decide))).trans (it_set_at (by omega))
  have f7 : it (offP of s b) b 7 = -9 := it_set_at (by omega)
  unfold leadsP
  rw [f 9 (by decide) (by decide) (by decide) (by decide), f7, f4, if_pos rfl, if_neg h7]
  by_cases c : it s b 9 ≤ 0
  · rw [if_pos c, if_pos c]
  · rw [if_neg c, if_neg c, f _ (by omega) (by omega) (by omega) (by omega)]
theorem leads_moveL (hp : PW nd cn of) : ∀ (r : Nat) {s : Int → Int}, SR nd cn of s → 0 ≤ b ∧ b < s 2 → leadsP of (moveL of b r s) b = leadsP of s b := by
  intro r
  induction r with
  | zero => intro s hs hb; rfl
  | succ r ih =>
    intro s hs hb
    unfold moveL
    by_cases c : it s b 7 = -9 ∧ 0 < it s b 9 ∧ it s b 11 < s 0
    · rw [if_pos c]
      have hB := hs.2.2.2.2 b hb.1 hb.2
      have h1 := hB.2.2.2.2.2.2.2.2.2.2.2.2.2.2.2.1 0 (by decide) c.2.1
      have h10 : 0 ≤ it s b 10 := h1.1
      have h9 := hB.2.2.2.2.2.2.2.2.2.2.2.2.2.2.1
      have hsp := SR_pop hs hb c.2.1
      have hSp := SameB_pop hb.1 h9
      have e0 : it (popP s b) b 0 = it s b 0 := hSp.2 b 0 hb.1 (by decide) (by decide) (by omega)
      have hbp : 0 ≤ b ∧ b < popP s b 2 := by rw [hSp.1 2 (by decide)]; exact hb
      by_cases d : arrT of s b (it s b 10) (it s b 11) ≤ s 0
      · rw [if_pos d]
        have hS : SameB b s (landP of (popP s b) b (it s b 10)) := hSp.tr (SameB_land hb.1)
        have := ih (s := landP of (popP s b) b (it s b 10)) (SR_land hp hsp hbp ⟨h1.1, h1.2.1⟩) (by rw [hS.1 2 (by decide)]; exact hb)
        exact this.trans (leads_land c.2.1 h9 c.1)
      · rw [if_neg d]
        have hS : SameB b s (boardP (popP s b) b (it s b 10) (it s b 11)) := hSp.tr (SameB_board hb.1)
        have := ih (s := boardP (popP s b) b (it s b 10) (it s b 11)) (SR_board hsp hbp ⟨h1.1, h1.2.1⟩ (by rw [e0]; exact h1.2.2)) (by rw [hS.1 2 (by decide)]; exact hb)
        exact this.trans (leads_board c.2.1 h9 (by omega))
    · rw [if_neg c]
theorem leads_moveP {s : Int → Int} (hp : PW nd cn of) (hs : SR nd cn of s) (hb : 0 ≤ b ∧ b < s 2) : leadsP of (moveP of s b) b = leadsP of s b := by
  unfold moveP
  by_cases c : it s b 7 ≠ -9 ∧ arrT of s b (it s b 7) (it s b 8) ≤ s 0
  · rw [if_pos c]
    have hS : SameB b s (offP of s b) := SameB_off hb.1
    have := leads_moveL hp 6 (SR_off hp hs hb c.1) (by rw [hS.1 2 (by decide)]; exact hb)
    exact this.trans (leads_off (hs.2.2.2.2 b hb.1 hb.2).2.2.2.2.2.2.2.2.2.2.2.2.2.2.1 c.1)
  · rw [if_neg c]
    exact leads_moveL hp 6 hs hb
/-- who waits behind it has waited before -/
theorem wait_moveP {s : Int → Int} (hp : PW nd cn of) (hs : SR nd cn of s) (hb : 0 ≤ b ∧ b < s 2) (hC : CH of s b) (h : stateP of (moveP of s b) b = 0) : stateP of s b = 0 := by
  have hm := (moveP_ok hp hs hb).2
  obtain ⟨h1, h2⟩ := stateP_wait.mp h
  obtain ⟨g1, g2, g3⟩ := stateP_open.mp h1
  rw [leads_moveP hp hs hb, hm.2 b 1 hb.1 (by decide) (by decide) (by omega)] at h2
  rw [hm.2 b 5 hb.1 (by decide) (by decide) (by omega)] at g2
  rw [hm.2 b 2 hb.1 (by decide) (by decide) (by omega), hm.1 0 (by decide)] at g3
  refine stateP_wait.mpr ⟨stateP_open.mpr ⟨fun q => ?_, g2, g3⟩, h2⟩
  by_cases c : 0 < it s b 9
  · have := (hC.2.1 c).1
    unfold nodeP at this
    rw [if_pos q.1] at this
    exact this q.2
  · rw [moveP_none q.1 (by omega)] at g1
    exact g1 q
end Leads
/-- those of a set that are open -/
noncomputable def opX (of s : Int → Int) (x : Int) : Int := setP (fun b => msB x b ∧ stateP of s b ≤ 1) (s 2).toNat
section Situ3
variable {G : GT} {n : Nat} {μ : Mem}
theorem C_advance (hg : gx G = FX) {Q : Nat → Mem → Prop} {nd cn a k : Int} {of s : Int → Int} (o : St a 7 5) (hp : PW nd cn of) (hN : NRel n μ 7 nd cn of) (hs : SV nd cn of s) (h : SRel of s μ a 0) (hk : 0 ≤ k ∧ s 0 + k ≤ 99) (q : ∀ ν, FrS a μ ν → SRel of (passP of s k) ν a 0 → Q n ν) : CV G Y_X7_advance [.inr a, .inl k] n μ Q := by
  have hs0 := hs.1.1
  have hm8 := hs.1.2.2.2.1
  have hm0 := hs.1.2.2.1
  have hR := SR_now (t := s 0 + k) hs.1 (by omega)
  have n0 : set1 s 0 (s 0 + k) 0 = s 0 + k := set1_at _ _ _
  have n2 : set1 s 0 (s 0 + k) 2 = s 2 := set1_ne (by decide)
  have n1 : set1 s 0 (s 0 + k) 1 = s 1 := set1_ne (by decide)
  have ni : ∀ o w, 0 ≤ o → 0 ≤ w → it (set1 s 0 (s 0 + k)) o w = it s o w := fun o w o0 w0 => set1_ne (by omega)
  refine m_X7_advance hg o ?_
  rw [h.2.1]
  refine ⟨by unfold inR; omega, ?_⟩
  -- later, and nothing else
  have hS0 : SRel of (set1 s 0 (s 0 + k)) (up μ a 3 (s 0 + k)) a 0 := by
    refine ⟨by rw [up_oth (by decide), n2]; exact h.1, by rw [up_self, n0], by rw [up_oth (by decide), n1]; exact h.2.2.1, fun b b0 b1 => ?_⟩
    rw [n2] at b1
    have hb := h.2.2.2 b b0 b1
    have hB := hs.1.2.2.2.2 b b0 b1
    refine ⟨BRel_eq (fun w w0 w1 _ => ni b w b0 w0) hB (BRel_keep (fun r r0 r1 => up_ne (by omega)) hb.1), fun _ hst => ?_⟩
    rw [up_ne (by omega), ni b 6 b0 (by decide)]
    refine hb.2 (ms_0 ⟨b0, by omega⟩) ?_
    obtain ⟨h1, h2⟩ := stateP_wait.mp hst
    obtain ⟨g1, g2, g3⟩ := stateP_open.mp h1
    have hl : leadsP of (set1 s 0 (s 0 + k)) b = leadsP of s b := by
      have h95 := hB.2.2.2.2.2.2.2.2.2.2.2.2.2.2.1
      unfold leadsP
      rw [ni b 9 b0 (by decide), ni b 7 b0 (by decide), ni b 4 b0 (by decide)]
      by_cases c : it s b 9 ≤ 0
      · rw [if_pos c, if_pos c]
      · rw [if_neg c, if_neg c, ni b _ b0 (by omega)]
    rw [hl, ni b 1 b0 (by decide)] at h2
    rw [ni b 7 b0 (by decide), ni b 4 b0 (by decide), ni b 1 b0 (by decide)] at g1
    rw [ni b 5 b0 (by decide)] at g2
    rw [ni b 2 b0 (by decide), n0] at g3
    exact stateP_wait.mpr ⟨stateP_open.mpr ⟨g1, g2, by omega⟩, h2⟩
  have key : ∀ (d j : Nat) (ν : Mem), (j : Int) + d = s 2 → FrS a μ ν → SRel of (moveAll of (set1 s 0 (s 0 + k)) j) ν a 0 → (∀ b, 0 ≤ b → b < s 2 → (j : Int) ≤ b → CH of (moveAll of (set1 s 0 (s 0 + k)) j) b) → B_X7_advance_12 G Q n ν a j := by
    intro d
    induction d with
    | zero =>
      intro j ν e hF hS _
      have hok := moveAll_ok hp hR j (by rw [n2]; omega)
      refine b_X7_advance_12 hg o ⟨fun _ => q ν hF ?_, fun z => absurd (by rw [hS.1, hok.2.1 2 (by decide), n2]; omega) z⟩
      unfold passP
      rw [show (s 2).toNat = j by omega]
      exact hS
    | succ d ih =>
      intro j ν e hF hS hCa
      have hok := moveAll_ok hp hR j (by rw [n2]; omega)
      have hbj : (0 : Int) ≤ j ∧ (j : Int) < moveAll of (set1 s 0 (s 0 + k)) j 2 := by rw [hok.2.1 2 (by decide), n2]; omega
      have hmv := moveP_ok hp hok.1 hbj
      have oB := St_SB o (b := (j : Int)) (by omega) (by omega)
      refine b_X7_advance_12 hg o ⟨fun z => absurd z (by rw [hS.1]; omega), fun _ => S_bundleAt hg o ⟨by omega, by omega⟩ ⟨oB, ?_⟩⟩
      rw [hS.2.1]
      refine S_arrive hg oB hp (NRel_S o hF hN) hok.1 hbj (hS.2.2.2 j hbj.1 hbj.2).1 (fun ξ hFx hbr h8 => ⟨by unfold inR; omega, ?_⟩)
      have hF' : FrS a μ ξ := hF.b ⟨hbj.1, by omega⟩ hFx
      have hCj := hCa j hbj.1 (by omega) (by omega)
      refine ih (j + 1) ξ (by omega) hF' (SRel_one hok.1 hS hbj hFx (fun w hw => hmv.2.1 w hw) (fun o' o0 o1 hne w w0 w1 => hmv.2.2 o' w o0 w0 w1 (Or.inl hne)) hbr (fun o' o0 o1 _ q => q) (fun hn hst => ?_)) (fun b b0 b1 hjb => ?_)
      · rw [h8, show it (moveAll of (set1 s 0 (s 0 + k)) (j + 1)) j 6 = it (moveAll of (set1 s 0 (s 0 + k)) j) j 6 from hmv.2.2 j 6 hbj.1 (by decide) (by decide) (by omega)]
        exact (hS.2.2.2 j hbj.1 hbj.2).2 hn (wait_moveP hp hok.1 hbj hCj hst)
      · have eq : EqB (moveAll of (set1 s 0 (s 0 + k)) j) (moveAll of (set1 s 0 (s 0 + k)) (j + 1)) b := fun w w0 w1 _ => hmv.2.2 b w b0 w0 w1 (Or.inl (by omega))
        exact CH_eq eq (hok.1.2.2.2.2 b b0 (by rw [hok.2.1 2 (by decide), n2]; exact b1)) (hCa b b0 b1 (by omega))
  refine key (s 2).toNat 0 _ (by omega) (FrS.rf.f) hS0 (fun b b0 b1 _ => CH_eq (fun w w0 w1 _ => ni b w b0 w0) (hs.1.2.2.2.2 b b0 b1) (hs.2.1 b b0 b1).1)
theorem C_regain (hg : gx G = FX) {Q : Int → Nat → Mem → Prop} {nd cn a c : Int} {of s : Int → Int} (o : St a 7 5) (hp : PW nd cn of) (hN : NRel n μ 7 nd cn of) (hs : SV nd cn of s) (h : SRel of s μ a 0) (q : ∀ ν, FrS a μ ν → SRel of (findP s c) ν a 0 → Q (findX of s c) n ν) : CI G Y_X7_regain [.inr a, .inl c] n μ Q := by
  have hm8 := hs.1.2.2.2.1
  have n0 : findP s c 0 = s 0 := set1_ne (by decide)
  have n2 : findP s c 2 = s 2 := set1_ne (by decide)
  have ni : ∀ o w, 0 ≤ o → 0 ≤ w → it (findP s c) o w = it s o w := fun o w o0 w0 => set1_ne (by omega)
  refine m_X7_regain hg o ?_
  rw [h.2.2.1]
  have hS : SRel of (findP s c) (up μ a 4 (iAnd (s 1) (iXor (iShl 1 c) (-1)))) a 0 := by
    refine ⟨by rw [up_oth (by decide), n2]; exact h.1, by rw [up_oth (by decide), n0]; exact h.2.1, by rw [up_self]; exact (set1_at _ _ _).symm, fun b b0 b1 => ?_⟩
    rw [n2] at b1
    have hb := h.2.2.2 b b0 b1
    have hB := hs.1.2.2.2.2 b b0 b1
    refine ⟨BRel_eq (fun w w0 w1 _ => ni b w b0 w0) hB (BRel_keep (fun r r0 r1 => up_ne (by omega)) hb.1), fun hn hst => ?_⟩
    rw [stateP_cong (fun w w0 w1 _ => ni b w b0 w0) n0 hB.2.2.2.2.2.2.2.2.2.2.2.2.2.2.1] at hst
    rw [up_ne (by omega), ni b 6 b0 (by decide)]
    exact hb.2 hn hst
  have hF : FrS a μ (up μ a 4 (iAnd (s 1) (iXor (iShl 1 c) (-1)))) := FrS.rf.f
  refine C_allStanding hg o hp (NRel_S o hF hN) (findP_SV hs) hS ?_
  rw [n2]
  exact q _ hF hS
theorem C_isOpen1 (hg : gx G = FX) {Q : Int → Nat → Mem → Prop} {nd cn a b x : Int} {of s : Int → Int} (o : St a 7 5) (hp : PW nd cn of) (hN : NRel n μ 7 nd cn of) (hB : BR nd cn of s b) (hC : CH of s b) (h : SRel of s μ a x) (hb : 0 ≤ b ∧ b < s 2) (hm8 : s 2 ≤ 8) (q0 : ¬ stateP of s b ≤ 1 → Q 0 n μ) (q1 : stateP of s b ≤ 1 → Q 1 n μ) : CI G Y_X7_isOpen [.inr a, .inl b] n μ Q := by
  have hin := stateP_in (of := of) (s := s) (b := b)
  have oB := St_SB o hb.1 (b := b) (by omega)
  refine m_X7_isOpen hg o (S_bundleAt hg o ⟨hb.1, by omega⟩ ⟨oB, ?_⟩)
  rw [h.2.1]
  exact S_standing hg oB hp hN hB (h.2.2.2 b hb.1 hb.2).1 hC ⟨fun z => b_X7_isOpen_22 hg (q1 (by omega)), fun z => ⟨fun y => q0 (by omega), fun y => b_X7_isOpen_22 hg (q1 (by omega))⟩⟩
/-- a bundle that was not there, new -/
theorem SRel_new {nd cn a : Int} {of s : Int → Int} {ν ξ : Mem} {v g w d p : Int} (hs : SR nd cn of s) (hm : s 2 ≤ 7) (h : SRel of s μ a 0) (h2 : ν = up μ a 2 (s 2 + 1)) (hF : FrB (a + 4 + 1 + 3 * s 2) ν ξ) (e2 : ξ (a + 4 + 1 + 3 * s 2) 2 = v) (e3 : ξ (a + 4 + 1 + 3 * s 2) 3 = g) (e4 : ξ (a + 4 + 1 + 3 * s 2) 4 = w) (e5 : ξ (a + 4 + 1 + 3 * s 2) 5 = d) (e6 : ξ (a + 4 + 1 + 3 * s 2) 6 = p) (e7 : ξ (a + 4 + 1 + 3 * s 2) 7 = 0) (e8 : ξ (a + 4 + 1 + 3 * s 2) 8 = 0) (e9 : ξ (a + 4 + 1 + 3 * s 2 + 1) 2 = 0) : SRel of (newP s v g w d p) ξ a 0 := by
  have h0 := hs.2.2.1
  have l2 : newP s v g w d p 2 = s 2 + 1 := (newP_lo h0 (by decide)).trans (if_pos rfl)
  have l0 : newP s v g w d p 0 = s 0 := (newP_lo h0 (by decide)).trans (if_neg (by decide))
  have l1 : newP s v g w d p 1 = s 1 := (newP_lo h0 (by decide)).trans (if_neg (by decide))
  have nw : ∀ k, 0 ≤ k → k < 20 → it (newP s v g w d p) (s 2) k = (if k = 9 then 0 else if k = 7 then -9 else if k = 6 then 0 else if k = 5 then 0 else if k = 4 then v else if k = 3 then p else if k = 2 then d else if k = 1 then g else if k = 0 then w else it s (s 2) k) := fun k k0 k1 => (newP_it h0 h0 ⟨k0, k1⟩).trans (if_pos rfl)
  have ra : ξ a = ν a := hF a (by omega)
  refine ⟨by rw [ra, h2, up_self, l2], by rw [ra, h2, up_oth (by decide), l0]; exact h.2.1, by rw [ra, h2, up_oth (by decide), l1]; exact h.2.2.1, fun b b0 b1 => ?_⟩
  rw [l2] at b1
  by_cases e : b = s 2
  · rw [e]
    have hN : rwN (newP s v g w d p) (s 2) = 0 := by
      unfold rwN onP
      rw [nw 7 (by decide) (by decide), nw 9 (by decide) (by decide)]
      rfl
    refine ⟨⟨?_, ?_, ?_, ?_, ?_, ?_, by rw [hN]; exact e9, fun i i0 i1 => by omega⟩, fun _ _ => ?_⟩
    · rw [e2, nw 4 (by decide) (by decide)]; rfl
    · rw [e3, nw 1 (by decide) (by decide)]; rfl
    · rw [e4, nw 0 (by decide) (by decide)]; rfl
    · rw [e5, nw 2 (by decide) (by decide)]; rfl
    · rw [e6, nw 3 (by decide) (by decide)]; rfl
    · rw [e7, nw 5 (by decide) (by decide)]; rfl
    · rw [e8, nw 6 (by decide) (by decide)]; rfl
  · have eq : ∀ k, 0 ≤ k → k < 20 → k ≠ 6 → it (newP s v g w d p) b k = it s b k := fun k k0 k1 _ => (newP_it h0 b0 ⟨k0, k1⟩).trans (if_neg e)
    have hB := hs.2.2.2.2 b b0 (by omega)
    have hb := h.2.2.2 b b0 (by omega)
    have fr : ∀ r, a + 4 + 1 + 3 * b ≤ r → r < a + 4 + 1 + 3 * b + 3 → ξ r = μ r := fun r r0 r1 => by rw [hF r (by omega), h2, up_ne (by omega)]
    refine ⟨BRel_eq eq hB (BRel_keep fr hb.1), fun hn hst => ?_⟩
    rw [stateP_cong eq l0 hB.2.2.2.2.2.2.2.2.2.2.2.2.2.2.1] at hst
    rw [fr _ (by omega) (by omega), show it (newP s v g w d p) b 6 = it s b 6 from (newP_it h0 b0 (by omega)).trans (if_neg e)]
    exact hb.2 hn hst
end Situ3
