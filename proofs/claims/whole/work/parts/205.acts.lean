-- the model: sending, missing, finding, undoing, seeing which is worst
def sendOk (nd v g w d p : Int) : Prop := (0 ≤ v ∧ v < nd) ∧ (0 ≤ g ∧ g < nd) ∧ (1 ≤ w ∧ w ≤ 20) ∧ (0 ≤ d ∧ d ≤ 99) ∧ 0 ≤ p ∧ p ≤ 2
def isD (u d : Int) : Prop := (u = 8 ∧ d = 1) ∨ (u < 8 ∧ d = 0)
section Acts2
variable {G : GT} {n : Nat} {μ : Mem}
theorem FrP.n3 {μ ν : Mem} (h : FrP μ ν) : ν 403 = μ 403 ∧ ν 399 8 = μ 399 8 := ⟨h.1 403 (by decide) (by decide) (by decide) (by decide) (by decide) (by decide), h.2 8 (by decide) (by decide)⟩
theorem S_sends (hg : gx G = FX) {Q : Int → Nat → Mem → Prop} {v g w d p : Int} (hM : MI μ) (q1 : ¬ sendOk (μ 399 1) v g w d p → Q (-1) n (up μ 399 0 0)) (q2 : sendOk (μ 399 1) v g w d p → μ 402 2 = 8 → Q (-3) n (up μ 399 0 0))
    (q3 : sendOk (μ 399 1) v g w d p → μ 402 2 < 8 → ∃ r s', PA (μ 399 2) (μ 400) r (newP (μ 402) v g w d p) (iShl 1 (μ 402 2)) s' ∧ ∀ ν e, FrA μ ν → isD (μ 399 8) e → ν 402 = s' → NoteP μ ν e → Q (if stateP (μ 400) s' (μ 402 2) = 2 then s' 0 else endP (μ 400) s' (μ 402 2)) n ν) : CI G Y_X11_sends [.inr 399, .inl v, .inl g, .inl w, .inl d, .inl p] n μ Q := by
  have hM' := hM.th
  have f0 : FrA μ (up μ 399 0 0) := FrA.th
  have e2 : (up μ 399 0 0) 402 = μ 402 := up_ne (by decide)
  have e4 : (up μ 399 0 0) 400 = μ 400 := up_ne (by decide)
  have e8 : (up μ 399 0 0) 399 8 = μ 399 8 := up_oth (by decide)
  have e91 : (up μ 399 0 0) 399 1 = μ 399 1 := up_oth (by decide)
  have e92 : (up μ 399 0 0) 399 2 = μ 399 2 := up_oth (by decide)
  refine m_X11_sends hg ?_
  have hnote : ∀ ξ d, NoteP (up μ 399 0 0) ξ d → NoteP μ ξ d := fun ξ d h => h.th
  generalize up μ 399 0 0 = μ1 at hM' f0 e2 e4 e8 e91 e92 q1 q2 hnote ⊢
  obtain ⟨hp, hs, hu, hms⟩ := hM'
  have hm8 := hs.2.2.2.1
  have hm0 := hs.2.2.1
  rw [← e91] at q1 q2 q3
  rw [← e2] at q2 q3
  rw [← e4, ← e8, ← e92] at q3
  refine S_isNode hg ⟨hp.1, hp.2.1⟩ (fun c => ⟨fun _ => q1 (fun h => c h.1), fun z => absurd rfl z⟩) (fun c1 => ⟨fun z => absurd z (by decide), fun _ => ?_⟩)
  refine S_isNode hg ⟨hp.1, hp.2.1⟩ (fun c => ⟨fun _ => q1 (fun h => c h.2.1), fun z => absurd rfl z⟩) (fun c2 => ⟨fun z => absurd z (by decide), fun _ => ?_⟩)
  refine S_in hg (fun c => ⟨fun _ => q1 (fun h => c h.2.2.1), fun z => absurd rfl z⟩) (fun c3 => ⟨fun z => absurd z (by decide), fun _ => ?_⟩)
  refine S_in hg (fun c => ⟨fun _ => q1 (fun h => c h.2.2.2.1), fun z => absurd rfl z⟩) (fun c4 => ⟨fun z => absurd z (by decide), fun _ => ?_⟩)
  refine S_in hg (fun c => ⟨fun z => absurd rfl z, fun _ => q1 (fun h => c h.2.2.2.2)⟩) (fun c5 => ⟨fun _ => ?_, fun z => absurd z (by decide)⟩)
  have hok : sendOk (μ1 399 1) v g w d p := ⟨c1, c2, c3, c4, c5⟩
  refine ⟨fun c6 => ?_, fun c6 => q2 hok c6⟩
  obtain ⟨r, s', hPA, q⟩ := q3 hok (by omega)
  refine S_notes hg hu (fun ν e hF he hN => ?_)
  have n2 : ν 402 = μ1 402 := hF.1 402 (by decide) (by decide)
  have n4 : ν 400 = μ1 400 := hF.1 400 (by decide) (by decide)
  have n9 : ν 399 2 = μ1 399 2 := hF.2 2 (by decide)
  have en : newP (ν 402) v g w d p = newP (μ1 402) v g w d p := by rw [n2]
  rw [← n2] at hPA q hm8 hm0 c6
  have hs' : SR (μ1 399 1) (μ1 399 2) (ν 400) (newP (ν 402) v g w d p) := by rw [n4]; exact newP_SR (by rw [n2]; exact hs) (by omega) c1 c2 c3 c4 c5
  have hN' := hnote ν e hN
  have hFA : FrA μ ν := f0.n hF
  clear hN hnote q1 q2 q3
  refine ⟨by omega, S_at hg (by omega) ⟨by omega, by omega, ?_⟩⟩
  iterate 8 refine S_at hg (by omega) ⟨by omega, by omega, ?_⟩
  have hrow : (up (up (up (up (up (up (up (up (up (up ν 402 2 (ν 402 2 + 1)) 402 (3 + 20 * ν 402 2 + 0) w) 402 (3 + 20 * ν 402 2 + 1) g) 402 (3 + 20 * ν 402 2 + 2) d) 402 (3 + 20 * ν 402 2 + 3) p) 402 (3 + 20 * ν 402 2 + 4) v) 402 (3 + 20 * ν 402 2 + 5) 0) 402 (3 + 20 * ν 402 2 + 6) 0) 402 (3 + 20 * ν 402 2 + 7) (-9)) 402 (3 + 20 * ν 402 2 + 9) 0) 402 = newP (ν 402) v g w d p := by
    repeat rw [up_row]
    rfl
  have hFr : FrP ν (up (up (up (up (up (up (up (up (up (up ν 402 2 (ν 402 2 + 1)) 402 (3 + 20 * ν 402 2 + 0) w) 402 (3 + 20 * ν 402 2 + 1) g) 402 (3 + 20 * ν 402 2 + 2) d) 402 (3 + 20 * ν 402 2 + 3) p) 402 (3 + 20 * ν 402 2 + 4) v) 402 (3 + 20 * ν 402 2 + 5) 0) 402 (3 + 20 * ν 402 2 + 6) 0) 402 (3 + 20 * ν 402 2 + 7) (-9)) 402 (3 + 20 * ν 402 2 + 9) 0) := FrP.rf.s.s.s.s.s.s.s.s.s.s
  generalize (up (up (up (up (up (up (up (up (up (up ν 402 2 (ν 402 2 + 1)) 402 (3 + 20 * ν 402 2 + 0) w) 402 (3 + 20 * ν 402 2 + 1) g) 402 (3 + 20 * ν 402 2 + 2) d) 402 (3 + 20 * ν 402 2 + 3) p) 402 (3 + 20 * ν 402 2 + 4) v) 402 (3 + 20 * ν 402 2 + 5) 0) 402 (3 + 20 * ν 402 2 + 6) 0) 402 (3 + 20 * ν 402 2 + 7) (-9)) 402 (3 + 20 * ν 402 2 + 9) 0) = ξ at hrow hFr ⊢
  have x4 : ξ 400 = μ1 400 := (hFr.1 400 (by decide) (by decide) (by decide) (by decide) (by decide) (by decide)).trans n4
  have x9 : ξ 399 2 = μ1 399 2 := (hFr.2 2 (by decide) (by decide)).trans n9
  have hbit : st8 (iShl 1 (ν 402 2)) := shl_st (by omega)
  refine S_plansAll hg (nd := μ1 399 1) hp (by rw [n4] at hs'; exact hs') hbit hPA x9 x4 hrow (fun ζ hz hz2 => ?_)
  have hok2 := PA_ok hp r (by rw [n4] at hs'; exact hs') hPA
  have z4 : ζ 400 = μ1 400 := (hz.1 400 (by decide) (by decide) (by decide) (by decide) (by decide) (by decide)).trans x4
  have e22 : s' 2 = ν 402 2 + 1 := (hok2.2.1 2 (by decide)).trans ((newP_lo hm0 (by decide)).trans (if_pos rfl))
  have hB := hok2.1.2.2.2.2 (ν 402 2) hm0 (by omega)
  have hfin : NoteP μ ζ e := hN'.to (hz.n3.1.trans hFr.n3.1) (hz.n3.2.trans hFr.n3.2)
  have q' := q ζ e ((hFA.p hFr).p hz) he hz2 hfin
  refine S_stateOf hg (nd := μ1 399 1) (cn := μ1 399 2) (by omega) (by rw [z4]; exact hp) (by rw [z4, hz2]; exact hB) ⟨fun c7 => ?_, fun c7 => ?_⟩
  · rw [z4, hz2] at c7
    rw [if_neg c7] at q'
    refine S_lastEnd hg (nd := μ1 399 1) (cn := μ1 399 2) (by rw [z4]; exact hp) (by omega) (by rw [z4, hz2]; exact hB) ?_
    rw [z4, hz2]
    exact q'
  · rw [z4, hz2] at c7
    rw [if_pos c7] at q'
    rw [hz2]
    exact q'
theorem S_misses (hg : gx G = FX) {Q : Int → Nat → Mem → Prop} {c : Int} (hM : MI μ) (q1 : ¬ (0 ≤ c ∧ c < μ 399 2) → Q (-1) n (up μ 399 0 0)) (q2 : 0 ≤ c → c < μ 399 2 → msB (μ 402 1) c → Q (-2) n (up μ 399 0 0))
    (q3 : 0 ≤ c → c < μ 399 2 → ¬ msB (μ 402 1) c → ∃ r s', PA (μ 399 2) (μ 400) r (lossP (μ 400) (μ 402) c) (lossX (μ 400) (μ 402) c) s' ∧ ∀ ν e, FrA μ ν → isD (μ 399 8) e → ν 402 = s' → NoteP μ ν e → Q (countP (μ 400) s' 0 (s' 2).toNat) n ν) : CI G Y_X11_misses [.inr 399, .inl c] n μ Q := by
  have hM' := hM.th
  have f0 : FrA μ (up μ 399 0 0) := FrA.th
  have e2 : (up μ 399 0 0) 402 = μ 402 := up_ne (by decide)
  have e4 : (up μ 399 0 0) 400 = μ 400 := up_ne (by decide)
  have e8 : (up μ 399 0 0) 399 8 = μ 399 8 := up_oth (by decide)
  have e92 : (up μ 399 0 0) 399 2 = μ 399 2 := up_oth (by decide)
  refine m_X11_misses hg ?_
  have hnote : ∀ ξ d, NoteP (up μ 399 0 0) ξ d → NoteP μ ξ d := fun ξ d h => h.th
  generalize up μ 399 0 0 = μ1 at hM' f0 e2 e4 e8 e92 q1 q2 hnote ⊢
  obtain ⟨hp, hs, hu, hms⟩ := hM'
  rw [← e92] at q1 q2 q3
  rw [← e2] at q2 q3
  rw [← e4, ← e8] at q3
  refine S_isContact hg ⟨hp.2.2.1, hp.2.2.2.1⟩ (fun z => ⟨fun g => absurd rfl g, fun _ => q1 z⟩) (fun z => ⟨fun _ => ?_, fun g => absurd g (by decide)⟩)
  refine S_isMissed hg (fun y => ⟨fun _ => ?_, fun g => absurd rfl g⟩) (fun y => ⟨fun g => absurd g (by decide), fun _ => q2 z.1 z.2 y⟩)
  obtain ⟨r, s', hPA, q⟩ := q3 z.1 z.2 y
  refine S_notes hg hu (fun ν e hF he hN => ?_)
  have n2 : ν 402 = μ1 402 := hF.1 402 (by decide) (by decide)
  have n4 : ν 400 = μ1 400 := hF.1 400 (by decide) (by decide)
  have n9 : ν 399 2 = μ1 399 2 := hF.2 2 (by decide)
  refine S_loses hg hp hs z hPA n9 n4 n2 (fun ζ hz hz2 => ?_)
  have z4 : ζ 400 = μ1 400 := (hz.1 400 (by decide) (by decide) (by decide) (by decide) (by decide) (by decide)).trans n4
  have hok2 := PA_ok hp r (loseS_SR _ (SR_set1 hs)) hPA
  refine S_countOf hg (nd := μ1 399 1) (cn := μ1 399 2) (by rw [z4]; exact hp) (by rw [z4, hz2]; exact hok2.1) ?_
  rw [z4, hz2]
  exact q ζ e ((f0.n hF).p hz) he hz2 ((hnote ν e hN).to hz.n3.1 hz.n3.2)
theorem S_finds (hg : gx G = FX) {Q : Int → Nat → Mem → Prop} {c : Int} (hM : MI μ) (q1 : ¬ (0 ≤ c ∧ c < μ 399 2) → Q (-1) n (up μ 399 0 0)) (q2 : 0 ≤ c → c < μ 399 2 → ¬ msB (μ 402 1) c → Q (-2) n (up μ 399 0 0))
    (q3 : 0 ≤ c → c < μ 399 2 → msB (μ 402 1) c → ∃ r s', PA (μ 399 2) (μ 400) r (findP (μ 402) c) (findX (μ 400) (μ 402) c) s' ∧ ∀ ν e, FrA μ ν → isD (μ 399 8) e → ν 402 = s' → NoteP μ ν e → Q (countP (μ 400) s' 0 (s' 2).toNat) n ν) : CI G Y_X11_finds [.inr 399, .inl c] n μ Q := by
  have hM' := hM.th
  have f0 : FrA μ (up μ 399 0 0) := FrA.th
  have e2 : (up μ 399 0 0) 402 = μ 402 := up_ne (by decide)
  have e4 : (up μ 399 0 0) 400 = μ 400 := up_ne (by decide)
  have e8 : (up μ 399 0 0) 399 8 = μ 399 8 := up_oth (by decide)
  have e92 : (up μ 399 0 0) 399 2 = μ 399 2 := up_oth (by decide)
  refine m_X11_finds hg ?_
  have hnote : ∀ ξ d, NoteP (up μ 399 0 0) ξ d → NoteP μ ξ d := fun ξ d h => h.th
  generalize up μ 399 0 0 = μ1 at hM' f0 e2 e4 e8 e92 q1 q2 hnote ⊢
  obtain ⟨hp, hs, hu, hms⟩ := hM'
  have hm8 := hs.2.2.2.1
  have hm0 := hs.2.2.1
  rw [← e92] at q1 q2 q3
  rw [← e2] at q2 q3
  rw [← e4, ← e8] at q3
  refine S_isContact hg ⟨hp.2.2.1, hp.2.2.2.1⟩ (fun z => ⟨fun g => absurd rfl g, fun _ => q1 z⟩) (fun z => ⟨fun _ => ?_, fun g => absurd g (by decide)⟩)
  refine S_isMissed hg (fun y => ⟨fun g => absurd rfl g, fun _ => q2 z.1 z.2 y⟩) (fun y => ⟨fun _ => ?_, fun g => absurd g (by decide)⟩)
  obtain ⟨r, s', hPA, q⟩ := q3 z.1 z.2 y
  refine S_notes hg hu (fun ν e hF he hN => ?_)
  have n2 : ν 402 = μ1 402 := hF.1 402 (by decide) (by decide)
  have n4 : ν 400 = μ1 400 := hF.1 400 (by decide) (by decide)
  have n9 : ν 399 2 = μ1 399 2 := hF.2 2 (by decide)
  have x2 : (up ν 402 1 (iAnd (ν 402 1) (iXor (iShl 1 c) (-1)))) 402 = findP (μ1 402) c := by rw [up_row, n2]; rfl
  have x4 : (up ν 402 1 (iAnd (ν 402 1) (iXor (iShl 1 c) (-1)))) 400 = μ1 400 := by rw [up_ne (by decide), n4]
  have x9 : (up ν 402 1 (iAnd (ν 402 1) (iXor (iShl 1 c) (-1)))) 399 2 = μ1 399 2 := by rw [up_ne (by decide), n9]
  have hFr : FrP ν (up ν 402 1 (iAnd (ν 402 1) (iXor (iShl 1 c) (-1)))) := FrP.rf.s
  generalize up ν 402 1 (iAnd (ν 402 1) (iXor (iShl 1 c) (-1))) = ξ at x2 x4 x9 hFr ⊢
  have hs1 : SR (μ1 399 1) (μ1 399 2) (μ1 400) (findP (μ1 402) c) := SR_set1 hs
  have m2 : findP (μ1 402) c 2 = μ1 402 2 := set1_ne (by decide)
  have key : ∀ (d k : Nat), (k : Int) + d = μ1 402 2 → B_X11_finds_48 G Q n ξ (setP (fun b => stateP (μ1 400) (findP (μ1 402) c) b = 0) k) k := by
    intro d
    induction d with
    | zero =>
      intro k ek
      have ek : k = (μ1 402 2).toNat := by omega
      subst ek
      refine b_X11_finds_48 hg ⟨fun _ => ?_, fun g => absurd (by rw [x2, m2]; omega) g⟩
      refine S_plansAll hg (nd := μ1 399 1) hp hs1 (setP_st _ (by omega)) hPA x9 x4 x2 (fun ζ hz hz2 => ?_)
      have z4 : ζ 400 = μ1 400 := (hz.1 400 (by decide) (by decide) (by decide) (by decide) (by decide) (by decide)).trans x4
      have hok2 := PA_ok hp r hs1 hPA
      refine S_countOf hg (nd := μ1 399 1) (cn := μ1 399 2) (by rw [z4]; exact hp) (by rw [z4, hz2]; exact hok2.1) ?_
      rw [z4, hz2]
      exact q ζ e (((f0.n hF).p hFr).p hz) he hz2 ((hnote ν e hN).to (hz.n3.1.trans hFr.n3.1) (hz.n3.2.trans hFr.n3.2))
    | succ d ih =>
      intro k ek
      have i := ih (k + 1) (by omega)
      unfold setP at i
      refine b_X11_finds_48 hg ⟨fun g => absurd g (by rw [x2, m2]; omega), fun _ => S_stateOf hg (nd := μ1 399 1) (cn := μ1 399 2) (by omega) (by rw [x4]; exact hp) (by rw [x4, x2]; exact hs1.2.2.2.2 k (by omega) (by omega)) ?_⟩
      rw [x4, x2]
      refine ⟨fun g => ⟨by omega, ?_⟩, fun g => ⟨by omega, ?_⟩⟩
      · rw [if_neg g] at i
        exact i
      · rw [if_pos g] at i
        exact i
  exact key (μ1 402 2).toNat 0 (by omega)
theorem S_undo (hg : gx G = FX) {Q : Int → Nat → Mem → Prop} (hu : 0 ≤ μ 399 8 ∧ μ 399 8 ≤ 8) (q2 : μ 399 8 = 0 → Q (-2) n (up μ 399 0 0))
    (q3 : 0 < μ 399 8 → ∀ ν, (∀ a, a ≠ 399 → a ≠ 402 → ν a = μ a) → (∀ k, k ≠ 0 → k ≠ 8 → ν 399 k = μ 399 k) → ν 399 8 = μ 399 8 - 1 → (∀ j, 0 ≤ j → j < 163 → ν 402 j = μ 403 (163 * (μ 399 8 - 1) + j)) → Q (μ 399 8 - 1) n ν) : CI G Y_X11_undo [.inr 399] n μ Q := by
  refine m_X11_undo hg ?_
  rw [up_self, th_399 μ (by decide)]
  refine ⟨fun c => ⟨by omega, by omega, ?_⟩, fun c => q2 c⟩
  refine S_copies hg (N1 := 1304) (N2 := 163) St_403 St_402 (by decide) (by omega) (by omega) (fun ν hB h1 h2 => ?_)
  rw [hB 399 (by decide), up_self]
  refine q3 (by omega) ν (fun a a1 a2 => ?_) (fun k k0 k8 => ?_) ?_ (fun j j0 j1 => ?_)
  · rw [hB a a2, up_ne a1, up_ne a1]
  · rw [hB 399 (by decide), up_oth k8, up_oth k0]
  · rw [hB 399 (by decide), up_self]
  · have := h1 j j0 j1
    rw [Int.zero_add] at this
    rw [this, up_ne (by decide), up_ne (by decide)]
end Acts2
