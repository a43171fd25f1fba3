-- the class: situations, their methods
def SRel (of s : Int → Int) (μ : Mem) (a x : Int) : Prop := μ a 2 = s 2 ∧ μ a 3 = s 0 ∧ μ a 4 = s 1 ∧ ∀ b, 0 ≤ b → b < s 2 → BRel of s μ b (a + 4 + 1 + 3 * b) ∧ (¬ msB x b → stateP of s b = 0 → μ (a + 4 + 1 + 3 * b) 8 = it s b 6)
def siPB (a : Int) : Bool := !((SH a).1 == 7) || (decide (18 ≤ a) && decide (a + 29 ≤ 397))
theorem St_S {a : Int} (o : St a 7 5) : 18 ≤ a ∧ a + 29 ≤ 397 := by
  have := St_all (P := siPB) (by decide +kernel) o
  unfold siPB at this
  rw [o.2.2] at this
  simpa using this
theorem St_SB {a b : Int} (o : St a 7 5) (h0 : 0 ≤ b) (h1 : b < 8) : St (a + 4 + 1 + 3 * b) 0 9 := st_22 (st_7_4 o) h0 h1
/-- nothing but a situation has changed -/
def FrS (a : Int) (μ ν : Mem) : Prop := ∀ r, ¬ (a ≤ r ∧ r < a + 29) → ν r = μ r
theorem FrS.rf {a : Int} {μ : Mem} : FrS a μ μ := fun _ _ => rfl
theorem FrS.tr {a : Int} {μ ν ξ : Mem} (h : FrS a μ ν) (h2 : FrS a ν ξ) : FrS a μ ξ := fun r hr => (h2 r hr).trans (h r hr)
theorem FrS.f {a k v : Int} {μ ν : Mem} (h : FrS a μ ν) : FrS a μ (up ν a k v) := fun r hr => by rw [up_ne (by omega)]; exact h r hr
theorem FrS.b {a b : Int} {μ ν ξ : Mem} (hb : 0 ≤ b ∧ b < 8) (h : FrS a μ ν) (h2 : FrB (a + 4 + 1 + 3 * b) ν ξ) : FrS a μ ξ := fun r hr => (h2 r (by omega)).trans (h r hr)
theorem NRel_S {n : Nat} {μ ν : Mem} {a nd cn : Int} {of : Int → Int} (o : St a 7 5) (h : FrS a μ ν) (hN : NRel n μ 7 nd cn of) : NRel n ν 7 nd cn of := by
  have := St_S o
  exact NRel_keep (Nat.le_refl _) (h 7 (by omega)) (h (7 + 2) (by omega)) (fun p hp => h p (by omega)) hN
/-- one bundle changes, and nothing of the others -/
theorem SRel_one {nd cn : Int} {of s s' : Int → Int} {μ ν : Mem} {a x x' b : Int} (hs : SR nd cn of s) (h : SRel of s μ a x) (hb : 0 ≤ b ∧ b < s 2) (hF : FrB (a + 4 + 1 + 3 * b) μ ν) (l : ∀ k, k < 3 → s' k = s k) (e : ∀ o, 0 ≤ o → o < s 2 → o ≠ b → ∀ w, 0 ≤ w → w < 20 → it s' o w = it s o w)
    (hbr : BRel of s' ν b (a + 4 + 1 + 3 * b)) (hx : ∀ o, 0 ≤ o → o < s 2 → o ≠ b → msB x o → msB x' o) (hy : ¬ msB x' b → stateP of s' b = 0 → ν (a + 4 + 1 + 3 * b) 8 = it s' b 6) : SRel of s' ν a x' := by
  obtain ⟨h2, h3, h4, h5⟩ := h
  have ra : ν a = μ a := hF a (by omega)
  refine ⟨by rw [ra, h2, l 2 (by decide)], by rw [ra, h3, l 0 (by decide)], by rw [ra, h4, l 1 (by decide)], fun o o0 o1 => ?_⟩
  rw [l 2 (by decide)] at o1
  by_cases eo : o = b
  · rw [eo]; exact ⟨hbr, hy⟩
  · have ho := h5 o o0 o1
    have hB := hs.2.2.2.2 o o0 o1
    have eq : EqB s s' o := fun w w0 w1 _ => e o o0 o1 eo w w0 w1
    have fr : ∀ r, a + 4 + 1 + 3 * o ≤ r → r < a + 4 + 1 + 3 * o + 3 → ν r = μ r := fun r r0 r1 => hF r (by omega)
    refine ⟨BRel_eq eq hB (BRel_keep fr ho.1), fun hn hst => ?_⟩
    have est : stateP of s' o = stateP of s o := by
      have hl : leadsP of s' o = leadsP of s o := by
        have h95 := hB.2.2.2.2.2.2.2.2.2.2.2.2.2.2.1
        unfold leadsP
        rw [e o o0 o1 eo 9 (by decide) (by decide), e o o0 o1 eo 7 (by decide) (by decide), e o o0 o1 eo 4 (by decide) (by decide)]
        by_cases c : it s o 9 ≤ 0
        · rw [if_pos c, if_pos c]
        · rw [if_neg c, if_neg c, e o o0 o1 eo _ (by omega) (by omega)]
      unfold stateP
      rw [hl, e o o0 o1 eo 7 (by decide) (by decide), e o o0 o1 eo 4 (by decide) (by decide), e o o0 o1 eo 1 (by decide) (by decide), e o o0 o1 eo 5 (by decide) (by decide), e o o0 o1 eo 2 (by decide) (by decide), l 0 (by decide)]
    rw [est] at hst
    rw [fr _ (by omega) (by omega), e o o0 o1 eo 6 (by decide) (by decide)]
    exact ho.2 (fun q => hn (hx o o0 o1 eo q)) hst
section Situ
variable {G : GT} {n : Nat} {μ : Mem}
theorem S_bundleAt (hg : gx G = FX) {Q : Int → Nat → Mem → Prop} {a b : Int} (o : St a 7 5) (hb : 0 ≤ b ∧ b < 8) (q : Q (a + 4 + 1 + 3 * b) n μ) : CR G Y_X7_bundleAt [.inr a, .inl b] n μ Q := by
  have := St_S o
  refine m_X7_bundleAt hg o ⟨fun z => absurd z (by omega), fun _ => ⟨fun _ => ⟨by omega, fun _ => ⟨by omega, q⟩, fun z => absurd z (by omega)⟩, fun z => absurd z (by omega)⟩⟩
theorem C_isMissed (hg : gx G = FX) {Q : Int → Nat → Mem → Prop} {a c x : Int} {of s : Int → Int} (o : St a 7 5) (h : SRel of s μ a x) (q0 : ¬ msB (s 1) c → Q 0 n μ) (q1 : msB (s 1) c → Q 1 n μ) : CI G Y_X7_isMissed [.inr a, .inl c] n μ Q := by
  refine m_X7_isMissed hg o ?_
  rw [h.2.2.1]
  exact ⟨q0, q1⟩
theorem C_hasBundle (hg : gx G = FX) {Q : Int → Nat → Mem → Prop} {a b x : Int} {of s : Int → Int} (o : St a 7 5) (h : SRel of s μ a x) (q0 : ¬ (0 ≤ b ∧ b < s 2) → Q 0 n μ) (q1 : 0 ≤ b ∧ b < s 2 → Q 1 n μ) : CI G Y_X7_hasBundle [.inr a, .inl b] n μ Q := by
  refine m_X7_hasBundle hg o ?_
  rw [h.1]
  exact ⟨fun z => q0 (by omega), fun z => ⟨fun y => q0 (by omega), fun y => q1 (by omega)⟩⟩
theorem C_standing (hg : gx G = FX) {Q : Int → Nat → Mem → Prop} {nd cn a b x : Int} {of s : Int → Int} (o : St a 7 5) (hp : PW nd cn of) (hN : NRel n μ 7 nd cn of) (hs : SV nd cn of s) (h : SRel of s μ a x) (hb : 0 ≤ b ∧ b < s 2) (q : Q (stateP of s b) n μ) : CI G Y_X0_standing [.inr (a + 4 + 1 + 3 * b), .inl (μ a 3)] n μ Q := by
  have hm8 := hs.1.2.2.2.1
  rw [h.2.1]
  exact S_standing hg (St_SB o hb.1 (by omega)) hp hN (hs.1.2.2.2.2 b hb.1 hb.2) (h.2.2.2 b hb.1 hb.2).1 (hs.2.1 b hb.1 hb.2).1 q
theorem C_isOpen (hg : gx G = FX) {Q : Int → Nat → Mem → Prop} {nd cn a b x : Int} {of s : Int → Int} (o : St a 7 5) (hp : PW nd cn of) (hN : NRel n μ 7 nd cn of) (hs : SV nd cn of s) (h : SRel of s μ a x) (hb : 0 ≤ b ∧ b < s 2) (q0 : ¬ stateP of s b ≤ 1 → Q 0 n μ) (q1 : stateP of s b ≤ 1 → Q 1 n μ) : CI G Y_X7_isOpen [.inr a, .inl b] n μ Q := by
  have hm8 := hs.1.2.2.2.1
  have hin := stateP_in (of := of) (s := s) (b := b)
  refine m_X7_isOpen hg o (S_bundleAt hg o ⟨hb.1, by omega⟩ ⟨St_SB o hb.1 (by omega), C_standing hg o hp hN hs h hb ⟨fun z => b_X7_isOpen_22 hg (q1 (by omega)), fun z => ⟨fun y => q0 (by omega), fun y => b_X7_isOpen_22 hg (q1 (by omega))⟩⟩⟩)
theorem C_allStanding (hg : gx G = FX) {Q : Int → Nat → Mem → Prop} {nd cn a st x : Int} {of s : Int → Int} (o : St a 7 5) (hp : PW nd cn of) (hN : NRel n μ 7 nd cn of) (hs : SV nd cn of s) (h : SRel of s μ a x) (q : Q (setP (fun b => stateP of s b = st) (s 2).toNat) n μ) : CI G Y_X7_allStanding [.inr a, .inl st] n μ Q := by
  have hm8 := hs.1.2.2.2.1
  have hm0 := hs.1.2.2.1
  have key : ∀ (d k : Nat), (k : Int) + d = s 2 → B_X7_allStanding_4 G Q n μ a st (setP (fun b => stateP of s b = st) k) k := by
    intro d
    induction d with
    | zero =>
      intro k e
      have ek : k = (s 2).toNat := by omega
      subst ek
      exact b_X7_allStanding_4 hg o ⟨fun _ => q, fun z => absurd (by rw [h.1]; omega) z⟩
    | succ d ih =>
      intro k e
      have i := ih (k + 1) (by omega)
      unfold setP at i
      refine b_X7_allStanding_4 hg o ⟨fun z => absurd z (by rw [h.1]; omega), fun _ => S_bundleAt hg o ⟨by omega, by omega⟩ ⟨St_SB o (by omega) (by omega), C_standing hg o hp hN hs h ⟨by omega, by omega⟩ ⟨fun y => ⟨by unfold inR; omega, ?_⟩, fun y => ⟨by unfold inR; omega, ?_⟩⟩⟩⟩
      · rw [if_neg y, iOr_0 (setP_st _ (by omega))] at i
        exact i
      · rw [if_pos y] at i
        exact i
  exact m_X7_allStanding hg o (key (s 2).toNat 0 (by omega))
theorem C_countStanding (hg : gx G = FX) {Q : Int → Nat → Mem → Prop} {nd cn a st x : Int} {of s : Int → Int} (o : St a 7 5) (hp : PW nd cn of) (hN : NRel n μ 7 nd cn of) (hs : SV nd cn of s) (h : SRel of s μ a x) (q : Q (countP of s st (s 2).toNat) n μ) : CI G Y_X7_countStanding [.inr a, .inl st] n μ Q := by
  have hm8 := hs.1.2.2.2.1
  refine m_X7_countStanding hg o (C_allStanding hg o hp hN hs h ?_)
  obtain ⟨v, hv, e, ec⟩ := count_set (of := of) (s := s) (st := st) (m := (s 2).toNat) (by omega)
  rw [e]
  have hbc := List.all_eq_true.mp bc_all v (List.mem_range.mpr hv)
  simp only [Bool.and_eq_true, decide_eq_true_eq] at hbc
  obtain ⟨⟨⟨⟨⟨b1, b2⟩, b3⟩, b4⟩, b5⟩, b6⟩ := hbc
  refine m_J6_bitCount_0f7a4 hg ⟨bcI_in b1, bcI_in b2, bcI_in b3, bcI_in b4, bcI_in b5, ?_⟩
  have : iAnd (bc5 (v : Nat)) 63 = countP of s st (s 2).toNat := by rw [b6, ec]
  rw [← this] at q
  exact q
theorem C_tickAtGoal (hg : gx G = FX) {Q : Int → Nat → Mem → Prop} {nd cn a b x : Int} {of s : Int → Int} (o : St a 7 5) (hp : PW nd cn of) (hN : NRel n μ 7 nd cn of) (hs : SV nd cn of s) (h : SRel of s μ a x) (hb : 0 ≤ b ∧ b < s 2) (q : Q (if stateP of s b = 2 then s 0 else if stateP of s b = 1 then endP of s b else -9) n μ) : CI G Y_X7_tickAtGoal [.inr a, .inl b] n μ Q := by
  have hm8 := hs.1.2.2.2.1
  have oB := St_SB o hb.1 (b := b) (by omega)
  refine m_X7_tickAtGoal hg o (S_bundleAt hg o ⟨hb.1, by omega⟩ ⟨oB, C_standing hg o hp hN hs h hb ⟨fun z => ?_, fun z => ?_⟩⟩)
  · rw [if_neg z] at q
    refine ⟨fun y => ?_, fun y => ?_⟩
    · rw [if_neg y] at q; exact q
    · rw [if_pos y] at q
      exact S_bundleAt hg o ⟨hb.1, by omega⟩ ⟨oB, S_lastThere hg oB (hs.1.2.2.2.2 b hb.1 hb.2) (h.2.2.2 b hb.1 hb.2).1 q⟩
  · rw [if_pos z] at q
    rw [h.2.1]
    exact q
theorem C_takerOf (hg : gx G = FX) {Q : Int → Nat → Mem → Prop} {nd cn a c t x : Int} {of s : Int → Int} (o : St a 7 5) (hs : SR nd cn of s) (h : SRel of s μ a x) (hc : 0 ≤ c) (q : ∀ r, TickP of s c t (s 2) r → Q r n μ) : CI G Y_X7_takerOf [.inr a, .inl c, .inl t] n μ Q := by
  have hm8 := hs.2.2.2.1
  have hm0 := hs.2.2.1
  have key : ∀ (d : Nat) (b : Int), b + d = s 2 → 0 ≤ b → (∀ o, 0 ≤ o → o < b → ¬ TKb of s o c t) → B_X7_takerOf_2 G Q n μ a c t b := by
    intro d
    induction d with
    | zero =>
      intro b e b0 hn
      have eb : b = s 2 := by omega
      subst eb
      exact b_X7_takerOf_2 hg o ⟨fun _ => q (-9) (Or.inl ⟨rfl, hn⟩), fun z => absurd (by rw [h.1]; omega) z⟩
    | succ d ih =>
      intro b e b0 hn
      have oB := St_SB o b0 (b := b) (by omega)
      refine b_X7_takerOf_2 hg o ⟨fun z => absurd z (by rw [h.1]; omega), fun _ => S_bundleAt hg o ⟨b0, by omega⟩ ⟨oB, S_takes0 hg oB (hs.2.2.2.2 b b0 (by omega)) (h.2.2.2 b b0 (by omega)).1 hc (fun z => ⟨fun _ => ⟨by unfold inR; omega, ih (b + 1) (by omega) (by omega) (fun o' o0 o1 => ?_)⟩, fun y => absurd rfl y⟩) (fun z => ⟨fun y => absurd y (by decide), fun _ => q b (Or.inr ⟨b0, by omega, z, hn⟩)⟩)⟩⟩
      by_cases eo : o' = b
      · rw [eo]; exact z
      · exact hn o' o0 (by omega)
  exact m_X7_takerOf hg o (key (s 2).toNat 0 (by omega) (by decide) (fun o' o0 o1 => by omega))
end Situ
