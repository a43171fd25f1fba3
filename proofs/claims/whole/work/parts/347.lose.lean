-- the class: a contact lost
section Situ4
variable {G : GT} {n : Nat} {μ : Mem}
theorem lsP_ne {of s : Int → Int} {c b o w : Int} (hw : 0 ≤ w ∧ w < 20) (h : o ≠ b) : it (lsP of s c b) o w = it s o w := by
  unfold lsP giveP
  by_cases d : cutB of s c b
  · rw [if_pos d]
    exact (it_set_ne (by omega) hw (Or.inl h)).trans (it_set_ne (by omega) hw (Or.inl h))
  · rw [if_neg d]
    exact it_set_ne (by omega) hw (Or.inl h)
theorem C_lose (hg : gx G = FX) {Q : Int → Nat → Mem → Prop} {nd cn a c : Int} {of s : Int → Int} (o : St a 7 5) (hp : PW nd cn of) (hN : NRel n μ 7 nd cn of) (hs : SV nd cn of s) (h : SRel of s μ a 0) (hc : 0 ≤ c ∧ c < cn) (q : ∀ ν, FrS a μ ν → SRel of (lossP of s c) ν a (opX of (lossP of s c) (lossX of s c)) → Q (opX of (lossP of s c) (lossX of s c)) n ν) : CI G Y_X7_lose [.inr a, .inl c] n μ Q := by
  have hm8 := hs.1.2.2.2.1
  have hm0 := hs.1.2.2.1
  have hM : SV nd cn of (missP s c) := SV_set1 (v := iOr (s 1) (iShl 1 c)) hs
  have hL : SV nd cn of (lossP of s c) := lossP_SV hs
  have n0 : missP s c 0 = s 0 := set1_ne (by decide)
  have n2 : missP s c 2 = s 2 := set1_ne (by decide)
  have ni : ∀ o w, 0 ≤ o → 0 ≤ w → it (missP s c) o w = it s o w := fun o w o0 w0 => set1_ne (by omega)
  have lk : ∀ (k : Nat) (j : Int), j < 3 → loseS of (missP s c) c k j = missP s c j := fun k j hj => loseS_lo k hj
  have e2 : lossP of s c 2 = s 2 := (lk _ 2 (by decide)).trans n2
  -- behind its turn a bundle stays as it is
  have fin : ∀ (k : Nat) (o' : Int), (k : Int) ≤ s 2 → 0 ≤ o' → o' < k → ∀ w, 0 ≤ w → w < 20 → it (loseS of (missP s c) c k) o' w = it (lossP of s c) o' w := by
    intro k o' hk o0 o1 w w0 w1
    have g1 := loseS_lt (of := of) (s := missP s c) (c := c) k o0 o1
    have g2 := loseS_lt (of := of) (s := missP s c) (c := c) (s 2).toNat o0 (by omega)
    unfold lossP
    by_cases e7 : w = 7
    · rw [e7, g1.1, g2.1]
    · by_cases e9 : w = 9
      · rw [e9, g1.2, g2.2]
      · rw [loseS_ge k ⟨w0, w1⟩ (Or.inr ⟨e7, e9⟩), loseS_ge _ ⟨w0, w1⟩ (Or.inr ⟨e7, e9⟩)]
  have eX : ∀ b : Int, 0 ≤ b → b < s 2 → (msB (opX of (lossP of s c) (lossX of s c)) b ↔ lostB of (missP s c) c b ∧ stateP of (lossP of s c) b ≤ 1) := by
    intro b b0 b1
    unfold opX
    have h1 := setP_ms (p := fun b => msB (lossX of s c) b ∧ stateP of (lossP of s c) b ≤ 1) (m := (lossP of s c 2).toNat) (by rw [e2]; omega) (j := b) ⟨b0, by omega⟩
    have h2 := setP_ms (p := lostB of (missP s c) c) (m := (s 2).toNat) (by omega) (j := b) ⟨b0, by omega⟩
    rw [h1, e2]
    unfold lossX
    rw [h2]
    constructor
    · rintro ⟨-, ⟨-, g⟩, g'⟩; exact ⟨g, g'⟩
    · rintro ⟨g, g'⟩; exact ⟨by omega, ⟨by omega, g⟩, g'⟩
  -- the set, as it grows
  have key : ∀ (d k : Nat) (ν : Mem), (k : Int) + d = s 2 → FrS a μ ν → SRel of (loseS of (missP s c) c k) ν a (setP (fun b => lostB of (missP s c) c b ∧ stateP of (lossP of s c) b ≤ 1) k) → B_X7_lose_16 G Q n ν a c (setP (fun b => lostB of (missP s c) c b ∧ stateP of (lossP of s c) b ≤ 1) k) k := by
    intro d
    induction d with
    | zero =>
      intro k ν e hF hS
      have ek : k = (s 2).toNat := by omega
      have eS : setP (fun b => lostB of (missP s c) c b ∧ stateP of (lossP of s c) b ≤ 1) k = opX of (lossP of s c) (lossX of s c) := by
        refine st_ext (setP_st _ (by omega)) (setP_st _ (by rw [e2]; omega)) (fun j j0 j8 => ?_)
        rw [setP_ms (p := fun b => lostB of (missP s c) c b ∧ stateP of (lossP of s c) b ≤ 1) (m := k) (by omega) ⟨j0, j8⟩]
        by_cases cj : j < s 2
        · rw [eX j j0 cj]
          exact ⟨fun z => z.2, fun z => ⟨by omega, z⟩⟩
        · constructor
          · intro z; omega
          · intro z
            have := (setP_ms (p := fun b => msB (lossX of s c) b ∧ stateP of (lossP of s c) b ≤ 1) (m := (lossP of s c 2).toNat) (by rw [e2]; omega) ⟨j0, j8⟩).mp z
            rw [e2] at this
            omega
      rw [eS] at hS ⊢
      have e' : loseS of (missP s c) c k = lossP of s c := by rw [ek]; rfl
      rw [e'] at hS
      exact b_X7_lose_16 hg o ⟨fun _ => q ν hF hS, fun z => absurd (by rw [hS.1, e2]; omega) z⟩
    | succ d ih =>
      intro k ν e hF hS
      have kb : (0 : Int) ≤ k ∧ (k : Int) < s 2 := by omega
      have hR : SR nd cn of (loseS of (missP s c) c k) := loseS_SR k hM.1
      have k2 : loseS of (missP s c) c k 2 = s 2 := (lk k 2 (by decide)).trans n2
      have k0 : loseS of (missP s c) c k 0 = missP s c 0 := lk k 0 (by decide)
      have hbk : (0 : Int) ≤ k ∧ (k : Int) < loseS of (missP s c) c k 2 := by rw [k2]; exact kb
      have hB := hR.2.2.2.2 k hbk.1 hbk.2
      have hBM := hM.1.2.2.2.2 k kb.1 (by rw [n2]; exact kb.2)
      have hvM := hM.2.1 k kb.1 (by rw [n2]; exact kb.2)
      have same : ∀ w, 0 ≤ w → w < 20 → it (loseS of (missP s c) c k) k w = it (missP s c) k w := fun w w0 w1 => loseS_ge k ⟨w0, w1⟩ (Or.inl (Int.le_refl _))
      have eq : EqB (missP s c) (loseS of (missP s c) c k) k := fun w w0 w1 _ => same w w0 w1
      have hC := CH_eq eq hBM hvM.1
      have hW := NW_eq eq k0 hBM hvM.2
      have oB := St_SB o (b := (k : Int)) (by omega) (by omega)
      have hNν := NRel_S o hF hN
      -- lost now, lost at all
      have h95 := hBM.2.2.2.2.2.2.2.2.2.2.2.2.2.2.1
      have cutI : cutB of (loseS of (missP s c) c k) c k ↔ cutB of (missP s c) c k := by
        unfold cutB
        rw [same 7 (by decide) (by decide), same 8 (by decide) (by decide), same 0 (by decide) (by decide), k0]
      have lostI : lostB of (loseS of (missP s c) c k) c k ↔ lostB of (missP s c) c k := by
        unfold lostB hopOn
        rw [cutI, same 9 (by decide) (by decide)]
        have : (∃ i, 0 ≤ i ∧ i < it (missP s c) k 9 ∧ hopC (loseS of (missP s c) c k) k i = c) ↔ (∃ i, 0 ≤ i ∧ i < it (missP s c) k 9 ∧ hopC (missP s c) k i = c) := by
          unfold hopC
          constructor
          · rintro ⟨i, i0, i1, g⟩; exact ⟨i, i0, i1, by rw [← same _ (by omega) (by omega)]; exact g⟩
          · rintro ⟨i, i0, i1, g⟩; exact ⟨i, i0, i1, by rw [same _ (by omega) (by omega)]; exact g⟩
        rw [this]
      refine b_X7_lose_16 hg o ⟨fun z => absurd z (by rw [hS.1, k2]; omega), fun _ => S_bundleAt hg o ⟨by omega, by omega⟩ ⟨oB, ?_⟩⟩
      rw [hS.2.1]
      have hst8 : st8 (setP (fun b => lostB of (missP s c) c b ∧ stateP of (lossP of s c) b ≤ 1) k) := setP_st _ (by omega)
      refine S_losesB hg oB hp hc hB (hS.2.2.2 k hbk.1 hbk.2).1 hC hW (fun hno => ⟨fun _ => ⟨by unfold inR; omega, ?_⟩, fun z => absurd rfl z⟩) (fun hyes ξ hFx hxv hbr => ⟨fun z => absurd z (by decide), fun _ => ?_⟩)
      · -- not lost
        have hn : ¬ lostB of (missP s c) c k := fun z => hno (lostI.mpr z)
        have i := ih (k + 1) ν (by omega) hF
        have e1 : loseS of (missP s c) c (k + 1) = loseS of (missP s c) c k := if_neg hn
        have e3 : setP (fun b => lostB of (missP s c) c b ∧ stateP of (lossP of s c) b ≤ 1) (k + 1) = setP (fun b => lostB of (missP s c) c b ∧ stateP of (lossP of s c) b ≤ 1) k := by
          show iOr _ _ = _
          rw [if_neg (fun z => hn z.1), iOr_0 hst8]
        rw [e1, e3] at i
        exact i hS
      · -- lost
        have hy := lostI.mp hyes
        have e1 : loseS of (missP s c) c (k + 1) = lsP of (loseS of (missP s c) c k) c k := by
          unfold lsP
          by_cases cc : cutB of (missP s c) c k
          · rw [loseS_cut hy cc, if_pos (cutI.mpr cc)]
          · rw [loseS_hop hy cc, if_neg (fun z => cc (cutI.mp z))]
        have hR1 : SR nd cn of (loseS of (missP s c) c (k + 1)) := loseS_SR (k + 1) hM.1
        have k21 : loseS of (missP s c) c (k + 1) 2 = s 2 := (lk (k + 1) 2 (by decide)).trans n2
        have fk := fin (k + 1) k (by omega) (by omega) (by omega)
        have hLB := hL.1.2.2.2.2 k kb.1 (by rw [e2]; exact kb.2)
        have hLv := hL.2.1 k kb.1 (by rw [e2]; exact kb.2)
        have hC1 : CH of (loseS of (missP s c) c (k + 1)) k := CH_eq (fun w w0 w1 _ => fk w w0 w1) hLB hLv.1
        have est : stateP of (loseS of (missP s c) c (k + 1)) k = stateP of (lossP of s c) k := stateP_cong (fun w w0 w1 _ => fk w w0 w1) ((lk (k + 1) 0 (by decide)).trans (lk _ 0 (by decide)).symm) hLB.2.2.2.2.2.2.2.2.2.2.2.2.2.2.1
        have hF' : FrS a μ ξ := hF.b ⟨by omega, by omega⟩ hFx
        have hbr' : BRel of (loseS of (missP s c) c (k + 1)) ξ k (a + 4 + 1 + 3 * k) := by rw [e1]; exact hbr
        have hS1 : SRel of (loseS of (missP s c) c (k + 1)) ξ a (setP (fun b => lostB of (missP s c) c b ∧ stateP of (lossP of s c) b ≤ 1) (k + 1)) := by
          refine SRel_one hR hS hbk hFx (fun j hj => (lk (k + 1) j hj).trans (lk k j hj).symm) (fun o' o0 o1 hne w w0 w1 => by rw [e1]; exact lsP_ne ⟨w0, w1⟩ hne) hbr' (fun o' o0 o1 hne z => ?_) (fun hn hst => ?_)
          · rw [k2] at o1
            have := (setP_ms (p := fun b => lostB of (missP s c) c b ∧ stateP of (lossP of s c) b ≤ 1) (m := k) (by omega) (j := o') ⟨o0, by omega⟩).mp z
            exact (setP_ms (p := fun b => lostB of (missP s c) c b ∧ stateP of (lossP of s c) b ≤ 1) (m := k + 1) (by omega) (j := o') ⟨o0, by omega⟩).mpr ⟨by omega, this.2⟩
          · refine absurd ((setP_ms (p := fun b => lostB of (missP s c) c b ∧ stateP of (lossP of s c) b ≤ 1) (m := k + 1) (by omega) (j := (k : Int)) ⟨by omega, by omega⟩).mpr ⟨by omega, hy, ?_⟩) hn
            rw [← est, hst]
            decide
        have i := ih (k + 1) ξ (by omega) hF' hS1
        refine C_isOpen1 hg o hp (NRel_S o hF' hN) (hR1.2.2.2.2 k (by omega) (by rw [k21]; omega)) hC1 hS1 (by rw [k21]; omega) (by rw [k21]; exact hm8) (fun z => ⟨fun _ => ⟨by unfold inR; omega, ?_⟩, fun y => absurd rfl y⟩) (fun z => ⟨fun y => absurd y (by decide), fun _ => ⟨by unfold inR; omega, ?_⟩⟩)
        · have e3 : setP (fun b => lostB of (missP s c) c b ∧ stateP of (lossP of s c) b ≤ 1) (k + 1) = setP (fun b => lostB of (missP s c) c b ∧ stateP of (lossP of s c) b ≤ 1) k := by
            show iOr _ _ = _
            rw [if_neg (fun y => z (by rw [est]; exact y.2)), iOr_0 hst8]
          rw [e3] at i
          exact i
        · have e3 : setP (fun b => lostB of (missP s c) c b ∧ stateP of (lossP of s c) b ≤ 1) (k + 1) = iOr (setP (fun b => lostB of (missP s c) c b ∧ stateP of (lossP of s c) b ≤ 1) k) (iShl 1 k) := by
            show iOr _ _ = _
            rw [if_pos ⟨hy, by rw [← est]; exact z⟩]
          rw [e3] at i
          exact i
  refine m_X7_lose hg o ?_
  rw [h.2.2.1]
  have hS0 : SRel of (missP s c) (up μ a 4 (iOr (s 1) (iShl 1 c))) a 0 := by
    refine ⟨by rw [up_oth (by decide), n2]; exact h.1, by rw [up_oth (by decide), n0]; exact h.2.1, by rw [up_self]; exact (set1_at _ _ _).symm, fun b b0 b1 => ?_⟩
    rw [n2] at b1
    have hb := h.2.2.2 b b0 b1
    have hB := hs.1.2.2.2.2 b b0 b1
    refine ⟨BRel_eq (fun w w0 w1 _ => ni b w b0 w0) hB (BRel_keep (fun r r0 r1 => up_ne (by omega)) hb.1), fun hn hst => ?_⟩
    rw [stateP_cong (fun w w0 w1 _ => ni b w b0 w0) n0 hB.2.2.2.2.2.2.2.2.2.2.2.2.2.2.1] at hst
    rw [up_ne (by omega), ni b 6 b0 (by decide)]
    exact hb.2 hn hst
  exact key (s 2).toNat 0 _ (by omega) FrS.rf.f hS0
end Situ4
