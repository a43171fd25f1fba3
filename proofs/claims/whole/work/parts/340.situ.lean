-- the class: situations, changed
/-- who lost a hop and is open -/
noncomputable def lossO (of s : Int → Int) (c : Int) : Int := setP (fun b => lostB of (missP s c) c b ∧ stateP of (missP s c) b ≤ 1) (s 2).toNat
section Situ2
variable {G : GT} {n : Nat} {μ : Mem}
theorem C_copyFrom (hg : gx G = FX) {Q : Nat → Mem → Prop} {nd cn a a' x : Int} {of s : Int → Int} (o : St a 7 5) (o' : St a' 7 5) (haa : a + 29 ≤ a' ∨ a' + 29 ≤ a) (hs : SR nd cn of s) (h : SRel of s μ a' x) (q : ∀ ν, FrS a μ ν → SRel of s ν a x → Q n ν) : CV G Y_X7_copyFrom [.inr a, .inr a'] n μ Q := by
  have hm8 := hs.2.2.2.1
  have hm0 := hs.2.2.1
  refine m_X7_copyFrom hg o o' ?_
  have e1 : ∀ (ν : Mem) (k v : Int), (up ν a k v) a' = ν a' := fun ν k v => up_ne (by omega)
  rw [e1, e1, h.1, h.2.1, e1, h.2.2.1]
  have key : ∀ (d : Nat) (b : Int) (ν : Mem), b + d = s 2 → 0 ≤ b → FrS a μ ν → ν a 2 = s 2 → ν a 3 = s 0 → ν a 4 = s 1 → (∀ i, 0 ≤ i → i < b → BRel of s ν i (a + 4 + 1 + 3 * i) ∧ (¬ msB x i → stateP of s i = 0 → ν (a + 4 + 1 + 3 * i) 8 = it s i 6)) → B_X7_copyFrom_26 G Q n ν a a' b := by
    intro d
    induction d with
    | zero =>
      intro b ν e b0 hF h2 h3 h4 hb
      refine b_X7_copyFrom_26 hg o o' ⟨fun _ => q ν hF ⟨h2, h3, h4, fun i i0 i1 => hb i i0 (by omega)⟩, fun z => absurd (by omega) z⟩
    | succ d ih =>
      intro b ν e b0 hF h2 h3 h4 hb
      have oB := St_SB o b0 (b := b) (by omega)
      have oB' := St_SB o' b0 (b := b) (by omega)
      have hB := hs.2.2.2.2 b b0 (by omega)
      have hr := h.2.2.2 b b0 (by omega)
      have hr' : BRel of s ν b (a' + 4 + 1 + 3 * b) := BRel_keep (fun r r0 r1 => hF r (by omega)) hr.1
      refine b_X7_copyFrom_26 hg o o' ⟨fun z => absurd z (by omega), fun _ => S_bundleAt hg o ⟨b0, by omega⟩ ⟨oB, S_bundleAt hg o' ⟨b0, by omega⟩ ⟨oB', S_copyB hg oB oB' (by omega) hB hr' (fun ξ hFx hbx h8 => ⟨by unfold inR; omega, ?_⟩)⟩⟩⟩
      have ra : ξ a = ν a := hFx a (by omega)
      refine ih (b + 1) ξ (by omega) (by omega) (hF.b ⟨b0, by omega⟩ hFx) (by rw [ra]; exact h2) (by rw [ra]; exact h3) (by rw [ra]; exact h4) (fun i i0 i1 => ?_)
      by_cases ei : i = b
      · rw [ei]
        refine ⟨hbx, fun hn hst => ?_⟩
        rw [h8, hF (a' + 4 + 1 + 3 * b) (by omega)]
        exact hr.2 hn hst
      · have hi := hb i i0 (by omega)
        refine ⟨BRel_keep (fun r r0 r1 => hFx r (by omega)) hi.1, fun hn hst => ?_⟩
        rw [hFx _ (by omega)]
        exact hi.2 hn hst
  refine key (s 2).toNat 0 _ (by omega) (by decide) (FrS.rf.f.f.f) ?_ ?_ ?_ (fun i i0 i1 => by omega)
  · rw [up_oth (by decide), up_oth (by decide), up_self]
  · rw [up_oth (by decide), up_self]
  · rw [up_self]
theorem C_reset (hg : gx G = FX) {Q : Nat → Mem → Prop} {a : Int} {of s : Int → Int} (o : St a 7 5) (h0 : s 0 = 0) (h1 : s 1 = 0) (h2 : s 2 = 0) (q : ∀ ν, FrS a μ ν → SRel of s ν a 0 → Q n ν) : CV G Y_X7_reset [.inr a] n μ Q := by
  refine m_X7_reset hg o (q _ (FrS.rf.f.f.f) ⟨?_, ?_, ?_, fun b b0 b1 => by omega⟩)
  · rw [up_oth (by decide), up_oth (by decide), up_self, h2]
  · rw [up_oth (by decide), up_self, h0]
  · rw [up_self, h1]
theorem C_drop (hg : gx G = FX) {Q : Nat → Mem → Prop} {nd cn a b : Int} {of s : Int → Int} (o : St a 7 5) (hp : PW nd cn of) (hs : SV nd cn of s) (h : SRel of s μ a 0) (hb : 0 ≤ b ∧ b < s 2) (q : ∀ ν, FrS a μ ν → SRel of (dropP s b) ν a 0 → Q n ν) : CV G Y_X0_drop [.inr (a + 4 + 1 + 3 * b), .inl (μ a 3)] n μ Q := by
  have hm8 := hs.1.2.2.2.1
  have oB := St_SB o hb.1 (b := b) (by omega)
  have hB := hs.1.2.2.2.2 b hb.1 hb.2
  have hv := hs.2.1 b hb.1 hb.2
  have hr := h.2.2.2 b hb.1 hb.2
  -- dropped, its hops as they were
  have ed : ∀ o' w, 0 ≤ w → w < 20 → (o' ≠ b ∨ w ≠ 5) → it (set1 s (3 + 20 * b + 5) 1) o' w = it s o' w := fun o' w w0 w1 h => it_set_ne (by omega) ⟨w0, w1⟩ h
  have e5 : it (set1 s (3 + 20 * b + 5) 1) b 5 = 1 := it_set_at (by omega)
  have e0 : set1 s (3 + 20 * b + 5) 1 0 = s 0 := set1_ne (by omega)
  have fd : ∀ w, 0 ≤ w → w < 20 → w ≠ 5 → it (set1 s (3 + 20 * b + 5) 1) b w = it s b w := fun w w0 w1 w5 => ed b w w0 w1 (Or.inr w5)
  have hB1 : BR nd cn of (set1 s (3 + 20 * b + 5) 1) b := by
    obtain ⟨a1, a2, a3, a4, a5, a6, a7, a8, a9, a10, a11, a12, a13, a14, a15, a16, a17⟩ := hB
    unfold BR hopC hopB at *
    rw [fd 0 (by decide) (by decide) (by decide), fd 1 (by decide) (by decide) (by decide), fd 2 (by decide) (by decide) (by decide), fd 3 (by decide) (by decide) (by decide), fd 4 (by decide) (by decide) (by decide), e5, fd 6 (by decide) (by decide) (by decide), fd 7 (by decide) (by decide) (by decide), fd 8 (by decide) (by decide) (by decide), fd 9 (by decide) (by decide) (by decide)]
    refine ⟨a1, a2, a3, a4, a5, a6, a7, a8, a9, a10, Or.inr rfl, a12, a13, a14, a15, fun k k0 k1 => ?_, a17⟩
    rw [fd _ (by omega) (by omega) (by omega), fd _ (by omega) (by omega) (by omega)]
    exact a16 k k0 k1
  have h95 := hB.2.2.2.2.2.2.2.2.2.2.2.2.2.2.1
  have hW1 : NW of (set1 s (3 + 20 * b + 5) 1) b := by
    have hw := hv.2
    unfold NW arrT hopB at hw ⊢
    rw [fd 7 (by decide) (by decide) (by decide), fd 8 (by decide) (by decide) (by decide), fd 9 (by decide) (by decide) (by decide), fd 0 (by decide) (by decide) (by decide), fd _ (by omega) (by omega) (by omega), e0]
    exact hw
  have hr1 : BRel of (set1 s (3 + 20 * b + 5) 1) (up μ (a + 4 + 1 + 3 * b) 7 1) b (a + 4 + 1 + 3 * b) := by
    obtain ⟨a2, a3, a4, a5, a6, a7, a9, ac⟩ := hr.1
    have hrN := rwN_in hB
    have eo : onP (set1 s (3 + 20 * b + 5) 1) b = onP s b := by unfold onP; rw [fd 7 (by decide) (by decide) (by decide)]
    have eN : rwN (set1 s (3 + 20 * b + 5) 1) b = rwN s b := by unfold rwN; rw [eo, fd 9 (by decide) (by decide) (by decide)]
    refine ⟨by rw [up_oth (by decide), fd 4 (by decide) (by decide) (by decide)]; exact a2, by rw [up_oth (by decide), fd 1 (by decide) (by decide) (by decide)]; exact a3, by rw [up_oth (by decide), fd 0 (by decide) (by decide) (by decide)]; exact a4, by rw [up_oth (by decide), fd 2 (by decide) (by decide) (by decide)]; exact a5, by rw [up_oth (by decide), fd 3 (by decide) (by decide) (by decide)]; exact a6, by rw [up_self, e5], by rw [up_ne (by omega), eN]; exact a9, fun i i0 i1 => ?_⟩
    rw [eN] at i1
    have er : rwC (set1 s (3 + 20 * b + 5) 1) b i = rwC s b i ∧ rwB (set1 s (3 + 20 * b + 5) 1) b i = rwB s b i := by
      unfold rwN at i1
      rcases onP_in s b with ⟨h7, e⟩ | ⟨h7, e⟩
      · have h7' : it (set1 s (3 + 20 * b + 5) 1) b 7 = -9 := by rw [fd 7 (by decide) (by decide) (by decide)]; exact h7
        rw [(row_off h7' i).1, (row_off h7' i).2, (row_off h7 i).1, (row_off h7 i).2]
        exact ⟨fd _ (by omega) (by omega) (by omega), fd _ (by omega) (by omega) (by omega)⟩
      · have h7' : it (set1 s (3 + 20 * b + 5) 1) b 7 ≠ -9 := by rw [fd 7 (by decide) (by decide) (by decide)]; exact h7
        by_cases ei : i = 0
        · rw [ei, (row_on h7').1, (row_on h7').2.1, (row_on h7).1, (row_on h7).2.1]
          exact ⟨fd _ (by decide) (by decide) (by decide), fd _ (by decide) (by decide) (by decide)⟩
        · rw [((row_on h7').2.2 i (by omega)).1, ((row_on h7').2.2 i (by omega)).2, ((row_on h7).2.2 i (by omega)).1, ((row_on h7).2.2 i (by omega)).2]
          exact ⟨fd _ (by omega) (by omega) (by omega), fd _ (by omega) (by omega) (by omega)⟩
    rw [er.1, er.2]
    unfold arrT
    rw [fd 0 (by decide) (by decide) (by decide), up_ne (by omega)]
    exact ac i i0 i1
  rw [h.2.1, ← e0]
  refine m_X0_drop hg oB (S_giveUp hg oB hB1 hr1 hW1 (fun ν hF hv8 hbr => ?_))
  have ecomm : giveP (set1 s (3 + 20 * b + 5) 1) b = dropP s b := by
    funext j
    unfold giveP dropP giveP set1
    by_cases c1 : j = 3 + 20 * b + 9
    · rw [if_pos c1, if_neg (by omega), if_pos c1]
    · rw [if_neg c1]
      by_cases c2 : j = 3 + 20 * b + 5
      · rw [if_pos c2, if_pos c2]
      · rw [if_neg c2, if_neg c2, if_neg c1]
  rw [ecomm] at hbr
  have hF' : FrB (a + 4 + 1 + 3 * b) μ ν := (FrB.rf.f).tr hF
  have d5 : it (dropP s b) b 5 = 1 := it_set_at (by omega)
  refine q ν (FrS.rf.b ⟨hb.1, by omega⟩ hF') (SRel_one hs.1 h hb hF' (fun k hk => (set1_ne (by omega)).trans (set1_ne (by omega))) (fun o' o0 o1 hne w w0 w1 => (it_set_ne (by omega) ⟨w0, w1⟩ (Or.inl hne)).trans (it_set_ne (by omega) ⟨w0, w1⟩ (Or.inl hne))) hbr (fun o' o0 o1 _ q => q) (fun _ hst => ?_))
  unfold stateP at hst
  rw [if_pos d5] at hst
  split at hst <;> omega
end Situ2
