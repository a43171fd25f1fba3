-- the model: questions
/-- the rows that a question may change -/
def FrQ (μ ν : Mem) : Prop := (∀ a, a ≠ 399 → a ≠ 411 → a ≠ 412 → a ≠ 413 → a ≠ 414 → ν a = μ a) ∧ ∀ k, k ≠ 0 → k ≠ 24 → k ≠ 27 → ν 399 k = μ 399 k
theorem FrQ.rf {μ : Mem} : FrQ μ μ := ⟨fun _ _ _ _ _ _ => rfl, fun _ _ _ _ => rfl⟩
theorem FrQ.th {μ : Mem} {v : Int} : FrQ μ (up μ 399 0 v) := ⟨fun a a1 _ _ _ _ => up_ne a1, fun k k0 _ _ => up_oth k0⟩
theorem FrQ.tr {μ ν ξ : Mem} (h : FrQ μ ν) (h2 : FrQ ν ξ) : FrQ μ ξ := ⟨fun a a1 a2 a3 a4 a5 => (h2.1 a a1 a2 a3 a4 a5).trans (h.1 a a1 a2 a3 a4 a5), fun k k0 k1 k2 => (h2.2 k k0 k1 k2).trans (h.2 k k0 k1 k2)⟩
theorem FrQ.r {μ ν : Mem} (h : FrQ μ ν) : ν 400 = μ 400 ∧ ν 402 = μ 402 ∧ ν 399 1 = μ 399 1 ∧ ν 399 2 = μ 399 2 ∧ ν 399 8 = μ 399 8 ∧ ν 399 13 = μ 399 13 ∧ ν 407 = μ 407 ∧ ν 408 = μ 408 ∧ ν 409 = μ 409 :=
  ⟨h.1 _ (by decide) (by decide) (by decide) (by decide) (by decide), h.1 _ (by decide) (by decide) (by decide) (by decide) (by decide), h.2 _ (by decide) (by decide) (by decide), h.2 _ (by decide) (by decide) (by decide), h.2 _ (by decide) (by decide) (by decide), h.2 _ (by decide) (by decide) (by decide), h.1 _ (by decide) (by decide) (by decide) (by decide) (by decide), h.1 _ (by decide) (by decide) (by decide) (by decide) (by decide), h.1 _ (by decide) (by decide) (by decide) (by decide) (by decide)⟩
theorem TK_y {of s : Int → Int} {x y pr m c t : Int} (hx : x < 0) (hy : y < 0) (h : TK of s x pr m c t) : TK of s y pr m c t := by
  obtain ⟨o, h1, h2, h3 | ⟨h3, h4, h5⟩⟩ := h
  · exact ⟨o, h1, h2, Or.inl h3⟩
  · exact ⟨o, h1, h2, Or.inr ⟨by omega, h4, h5⟩⟩
noncomputable def askE (cn : Int) (of s : Int → Int) (v g w p out : Int) : Int := dpP cn (Fc of) (Tc of) (EE cn of s (tkS of s p) w out) v (s 0) 5 g
/-- what asks() answers, a contact let out -/
noncomputable def askP (cn : Int) (of s : Int → Int) (v g w p out : Int) : Int := if v = g then s 0 else if askE cn of s v g w p out < 9999 then askE cn of s v g w p out else -9
noncomputable def largeP (cn : Int) (of s : Int → Int) (v g p by' : Int) : Nat → Int
  | 0 => -9
  | k + 1 => if askP cn of s v g ((k : Int) + 1) p (-9) ≠ -9 ∧ askP cn of s v g ((k : Int) + 1) p (-9) ≤ by' then (k : Int) + 1 else largeP cn of s v g p by' k
/-- one observation is true -/
def seenP (cn : Int) (of s : Int → Int) (c v g a : Int) : Prop := a = if askP cn of s v g 1 2 c = -9 then 121 else askP cn of s v g 1 2 c
def seenOk (μ : Mem) : Prop := 0 ≤ μ 399 13 ∧ μ 399 13 ≤ 6 ∧ ∀ k, 0 ≤ k → k < μ 399 13 → (0 ≤ μ 407 k ∧ μ 407 k < μ 399 1) ∧ (0 ≤ μ 408 k ∧ μ 408 k < μ 399 1) ∧ μ 407 k ≠ μ 408 k ∧ 0 ≤ μ 409 k ∧ μ 409 k ≤ 121
noncomputable def unseenP (μ : Mem) : Int := setP (fun c => ¬ msB (μ 402 1) c ∧ ∀ k, 0 ≤ k → k < μ 399 13 → seenP (μ 399 2) (μ 400) (μ 402) c (μ 407 k) (μ 408 k) (μ 409 k)) (μ 399 2).toNat
section Asks
variable {G : GT} {n : Nat} {μ : Mem}
theorem S_askedOf (hg : gx G = FX) {Q : Int → Nat → Mem → Prop} {nd v g w p out : Int} (hp : PW nd (μ 399 2) (μ 400)) (hs : SR nd (μ 399 2) (μ 400) (μ 402)) (hw : 1 ≤ w ∧ w ≤ 20) (hgo : 0 ≤ g ∧ g < nd)
    (q : ∀ ν, FrQ μ ν → Q (askP (μ 399 2) (μ 400) (μ 402) v g w p out) n ν) : CI G Y_X11_askedOf [.inr 399, .inl v, .inl g, .inl w, .inl p, .inl out] n μ Q := by
  have hq := q
  unfold askP at hq
  refine m_X11_askedOf hg ⟨fun c => ?_, fun c => ?_⟩
  · simp only [if_neg c] at hq
    refine S_laysTaken hg (nd := nd) (cn := μ 399 2) hp hs (fun ξ hB hk => ?_)
    have x4 := hB 400 (by decide)
    have x2 := hB 402 (by decide)
    have x9 := hB 399 (by decide)
    have hk' : Mk ξ (tkS (μ 400) (μ 402) p) := fun c t h0 h1 h2 h3 => (hk c t h0 h1 h2 h3).trans ⟨TK_y (by decide) (by decide), TK_y (by decide) (by decide)⟩
    have hs0 := hs.1
    have hs1 := hs.2.1
    refine S_findsEnd hg (nd := nd) (tk := tkS (μ 400) (μ 402) p) (by rw [x9, x4]; exact hp) hw (by rw [x2]; exact ⟨hs0, hs1⟩) (by rw [x2]; omega) hgo hk' (fun ν M A hF hA h27 _ _ _ _ => ?_)
    rw [x9, x4, x2] at hA
    have hFr : FrQ μ ν := ⟨fun a a1 a2 a3 a4 a5 => (hF.1 a a3 a4 a5 a1).trans (hB a a2), fun k k0 k1 k2 => (hF.2 k k1 k2).trans (by rw [x9])⟩
    have hq' := hq ν hFr
    have hA' : A = askE (μ 399 2) (μ 400) (μ 402) v g w p out := hA
    rw [← hA'] at hq'
    refine ⟨fun g => ⟨fun _ => ?_, fun z => absurd rfl z⟩, fun g => ⟨fun z => absurd z (by decide), fun _ => ?_⟩⟩
    · rw [if_neg (by omega)] at hq'
      exact hq'
    · rw [if_pos g] at hq'
      rw [h27]
      exact hq'
  · simp only [if_pos c] at hq
    exact hq μ FrQ.rf
theorem MI.p {μ : Mem} (h : MI μ) : PW (μ 399 1) (μ 399 2) (μ 400) := h.1
theorem MI.s {μ : Mem} (h : MI μ) : SR (μ 399 1) (μ 399 2) (μ 400) (μ 402) := h.2.1
theorem MI.q {μ ν : Mem} (h : MI μ) (f : FrQ μ ν) : MI ν := by
  obtain ⟨f4, f2, f91, f92, f98, -⟩ := f.r
  unfold MI
  rw [f4, f2, f91, f92, f98]
  exact h
theorem S_asks (hg : gx G = FX) {Q : Int → Nat → Mem → Prop} {v g w p : Int} (hM : MI μ)
    (q1 : ¬ ((0 ≤ v ∧ v < μ 399 1) ∧ (0 ≤ g ∧ g < μ 399 1) ∧ (1 ≤ w ∧ w ≤ 20) ∧ 0 ≤ p ∧ p ≤ 2) → ∀ ν, FrQ μ ν → Q (-1) n ν)
    (q2 : (0 ≤ v ∧ v < μ 399 1) → (0 ≤ g ∧ g < μ 399 1) → (1 ≤ w ∧ w ≤ 20) → 0 ≤ p ∧ p ≤ 2 → ∀ ν, FrQ μ ν → Q (askP (μ 399 2) (μ 400) (μ 402) v g w p (-9)) n ν) : CI G Y_X11_asks [.inr 399, .inl v, .inl g, .inl w, .inl p] n μ Q := by
  have f0 : FrQ μ (up μ 399 0 0) := FrQ.th
  have hM' := hM.q f0
  obtain ⟨f4, f2, f91, f92, -⟩ := f0.r
  refine m_X11_asks hg ?_
  generalize up μ 399 0 0 = μ1 at *
  have hn := hM'.p
  refine S_isNode hg ⟨hn.1, hn.2.1⟩ (fun c => ⟨fun _ => q1 (fun h => c (by rw [f91]; exact h.1)) μ1 f0, fun z => absurd rfl z⟩) (fun c1 => ⟨fun z => absurd z (by decide), fun _ => ?_⟩)
  refine S_isNode hg ⟨hn.1, hn.2.1⟩ (fun c => ⟨fun _ => q1 (fun h => c (by rw [f91]; exact h.2.1)) μ1 f0, fun z => absurd rfl z⟩) (fun c2 => ⟨fun z => absurd z (by decide), fun _ => ?_⟩)
  refine S_in hg (fun c => ⟨fun _ => q1 (fun h => c h.2.2.1) μ1 f0, fun z => absurd rfl z⟩) (fun c3 => ⟨fun z => absurd z (by decide), fun _ => ?_⟩)
  refine S_in hg (fun c => ⟨fun z => absurd rfl z, fun _ => q1 (fun h => c h.2.2.2) μ1 f0⟩) (fun c4 => ⟨fun _ => ?_, fun z => absurd z (by decide)⟩)
  refine S_askedOf hg (nd := μ1 399 1) hM'.p hM'.s c3 c2 (fun ν hF => ?_)
  rw [f92, f4, f2]
  rw [f91] at c1 c2
  exact q2 c1 c2 c3 c4 ν (f0.tr hF)
theorem S_largest (hg : gx G = FX) {Q : Int → Nat → Mem → Prop} {v g p y : Int} (hM : MI μ)
    (q1 : ¬ ((0 ≤ v ∧ v < μ 399 1) ∧ (0 ≤ g ∧ g < μ 399 1) ∧ (0 ≤ p ∧ p ≤ 2) ∧ 0 ≤ y ∧ y ≤ 120) → ∀ ν, FrQ μ ν → Q (-1) n ν)
    (q2 : (0 ≤ v ∧ v < μ 399 1) → (0 ≤ g ∧ g < μ 399 1) → (0 ≤ p ∧ p ≤ 2) → 0 ≤ y ∧ y ≤ 120 → ∀ ν, FrQ μ ν → Q (largeP (μ 399 2) (μ 400) (μ 402) v g p y 20) n ν) : CI G Y_X11_largest [.inr 399, .inl v, .inl g, .inl p, .inl y] n μ Q := by
  have f0 : FrQ μ (up μ 399 0 0) := FrQ.th
  have hM' := hM.q f0
  obtain ⟨f4, f2, f91, f92, -⟩ := f0.r
  refine m_X11_largest hg ?_
  generalize up μ 399 0 0 = μ1 at *
  have hn := hM'.p
  refine S_isNode hg ⟨hn.1, hn.2.1⟩ (fun c => ⟨fun _ => q1 (fun h => c (by rw [f91]; exact h.1)) μ1 f0, fun z => absurd rfl z⟩) (fun c1 => ⟨fun z => absurd z (by decide), fun _ => ?_⟩)
  refine S_isNode hg ⟨hn.1, hn.2.1⟩ (fun c => ⟨fun _ => q1 (fun h => c (by rw [f91]; exact h.2.1)) μ1 f0, fun z => absurd rfl z⟩) (fun c2 => ⟨fun z => absurd z (by decide), fun _ => ?_⟩)
  refine S_in hg (fun c => ⟨fun _ => q1 (fun h => c h.2.2.1) μ1 f0, fun z => absurd rfl z⟩) (fun c3 => ⟨fun z => absurd z (by decide), fun _ => ?_⟩)
  refine S_in hg (fun c => ⟨fun z => absurd rfl z, fun _ => q1 (fun h => c h.2.2.2) μ1 f0⟩) (fun c4 => ⟨fun _ => ?_, fun z => absurd z (by decide)⟩)
  have q3 := q2 (by rw [← f91]; exact c1) (by rw [← f91]; exact c2) c3 c4
  have key : ∀ (k : Nat) (ν : Mem), k ≤ 20 → FrQ μ ν → (∀ ξ, FrQ μ ξ → Q (largeP (μ 399 2) (μ 400) (μ 402) v g p y k) n ξ) → B_X11_largest_47 G Q n ν v g p y k := by
    intro k
    induction k with
    | zero =>
      intro ν _ hF hQ
      exact b_X11_largest_47 hg ⟨fun _ => hQ ν hF, fun z => absurd (by decide) z⟩
    | succ k ih =>
      intro ν hk hF hQ
      have hMν := hM.q hF
      obtain ⟨g4, g2, g91, g92, -⟩ := hF.r
      refine b_X11_largest_47 hg ⟨fun z => absurd z (by omega), fun _ => S_askedOf hg (nd := ν 399 1) hMν.p hMν.s (by omega) (by rw [g91, ← f91]; exact c2) (fun ξ hFx => ?_)⟩
      rw [g92, g4, g2]
      unfold largeP at hQ
      rw [show ((k + 1 : Nat) : Int) = (k : Int) + 1 from rfl]
      refine ⟨fun z => ⟨by omega, ?_⟩, fun z => ⟨fun z2 => ⟨by omega, ?_⟩, fun z2 => ?_⟩⟩
      · rw [show (k : Int) + 1 + -1 = k by omega]
        rw [if_neg (fun h => h.1 z)] at hQ
        exact ih ξ (by omega) (hF.tr hFx) hQ
      · rw [show (k : Int) + 1 + -1 = k by omega]
        rw [if_neg (fun h => absurd h.2 (by omega))] at hQ
        exact ih ξ (by omega) (hF.tr hFx) hQ
      · rw [if_pos ⟨z, by omega⟩] at hQ
        exact hQ ξ (hF.tr hFx)
  exact key 20 μ1 (by decide) f0 q3
theorem S_unseen (hg : gx G = FX) {Q : Int → Nat → Mem → Prop} (hM : MI μ) (hSe : seenOk μ) (q : ∀ ν, FrQ μ ν → Q (unseenP μ) n ν) : CI G Y_X11_unseen [.inr 399] n μ Q := by
  obtain ⟨s0, s6, hse⟩ := hSe
  have hc0 := hM.p.2.2.1
  have hc8 := hM.p.2.2.2.1
  unfold unseenP at q
  refine m_X11_unseen hg ?_
  have key : ∀ (d k : Nat) (ν : Mem), (k : Int) + d = μ 399 2 → FrQ μ ν → B_X11_unseen_9 G Q n ν (setP (fun c => ¬ msB (μ 402 1) c ∧ ∀ k, 0 ≤ k → k < μ 399 13 → seenP (μ 399 2) (μ 400) (μ 402) c (μ 407 k) (μ 408 k) (μ 409 k)) k) k := by
    generalize hPP : (fun c => ¬ msB (μ 402 1) c ∧ ∀ k, 0 ≤ k → k < μ 399 13 → seenP (μ 399 2) (μ 400) (μ 402) c (μ 407 k) (μ 408 k) (μ 409 k)) = PP at *
    intro d
    induction d with
    | zero =>
      intro k ν e hF
      have ek : k = (μ 399 2).toNat := by omega
      subst ek
      refine b_X11_unseen_9 hg ⟨fun _ => q ν hF, fun z => absurd (by rw [hF.r.2.2.2.1]; omega) z⟩
    | succ d ih =>
      intro k ν e hF
      have i := ih (k + 1)
      unfold setP at i
      have done : ∀ (u : Int) (ξ : Mem), FrQ μ ξ → (u ≠ 0 ↔ PP k) → B_X11_unseen_106 G Q n ξ (setP PP k) k u := by
        intro u ξ hFx hu
        have i' := i ξ (by omega) hFx
        refine b_X11_unseen_106 hg ⟨fun z => ⟨by omega, ?_⟩, fun z => ⟨by omega, ?_⟩⟩
        · rw [if_neg (fun h => hu.mpr h z)] at i'
          exact i'
        · rw [if_pos (hu.mp z)] at i'
          exact i'
      have loop : ∀ (m : Nat) (j u : Int) (ξ : Mem), j + m = μ 399 13 → 0 ≤ j → FrQ μ ξ → (u = 0 ∨ u = 1) → (u ≠ 0 ↔ (¬ msB (μ 402 1) k ∧ ∀ i, 0 ≤ i → i < j → seenP (μ 399 2) (μ 400) (μ 402) k (μ 407 i) (μ 408 i) (μ 409 i))) → B_X11_unseen_34 G Q n ξ (setP PP k) k u j := by
        intro m
        induction m with
        | zero =>
          intro j u ξ ej j0 hFx h01 hu
          have ej : j = μ 399 13 := by omega
          subst ej
          exact b_X11_unseen_34 hg ⟨fun _ => done u ξ hFx (by rw [← hPP]; exact hu), fun z => absurd (by rw [hFx.r.2.2.2.2.2.1]; omega) z⟩
        | succ m ihm =>
          intro j u ξ ej j0 hFx h01 hu
          have hMx := hM.q hFx
          obtain ⟨g4, g2, g91, g92, -, g13, g407, g408, g409⟩ := hFx.r
          have hsj := hse j j0 (by omega)
          refine b_X11_unseen_34 hg ⟨fun z => absurd z (by rw [g13]; omega), fun _ => ⟨fun z => done u ξ hFx ?_, fun z => ⟨by omega, by omega, S_askedOf hg (nd := ξ 399 1) hMx.p hMx.s (by decide) (by rw [g408, g91]; exact hsj.2.1) (fun ζ hz => ?_)⟩⟩⟩
          · rw [← hPP]
            constructor
            · intro h; exact absurd z h
            · rintro ⟨h1, h2⟩
              exact hu.mpr ⟨h1, fun i i0 i1 => h2 i i0 (by omega)⟩
          · have hFz := hFx.tr hz
            rw [hFz.r.2.2.2.2.2.2.2.2, g92, g4, g2, g407, g408]
            refine ⟨by omega, ?_⟩
            have step : ∀ (x : Int), x = (if askP (μ 399 2) (μ 400) (μ 402) (μ 407 j) (μ 408 j) 1 2 k = -9 then 121 else askP (μ 399 2) (μ 400) (μ 402) (μ 407 j) (μ 408 j) 1 2 k) → B_X11_unseen_91 G Q n ζ (setP PP k) k j x (μ 409 j) := by
              intro x hx
              refine b_X11_unseen_91 hg ⟨fun y => ⟨by omega, ihm (j + 1) 0 ζ (by omega) (by omega) hFz (Or.inl rfl) ⟨fun h => absurd rfl h, fun h => ?_⟩⟩, fun y => ⟨by omega, ihm (j + 1) 1 ζ (by omega) (by omega) hFz (Or.inr rfl) ⟨fun _ => ?_, fun _ => by decide⟩⟩⟩
              · have := h.2 j j0 (by omega)
                unfold seenP at this
                rw [← hx] at this
                exact absurd this y
              · have h1 := hu.mp z
                refine ⟨h1.1, fun i i0 i1 => ?_⟩
                by_cases ei : i = j
                · rw [ei]
                  unfold seenP
                  rw [← hx]
                  exact y
                · exact h1.2 i i0 (by omega)
            exact ⟨fun y => step _ (by rw [if_neg y]), fun y => step _ (by rw [if_pos y])⟩
      refine b_X11_unseen_9 hg ⟨fun z => absurd z (by rw [hF.r.2.2.2.1]; omega), fun _ => S_isMissed hg (fun y => ⟨fun z => absurd rfl z, fun _ => ?_⟩) (fun y => ⟨fun _ => ?_, fun z => absurd z (by decide)⟩)⟩
      · rw [hF.r.2.1] at y
        exact b_X11_unseen_30 hg (loop (μ 399 13).toNat 0 1 ν (by omega) (by decide) hF (Or.inr rfl) ⟨fun _ => ⟨y, fun i i0 i1 => by omega⟩, fun _ => by decide⟩)
      · rw [hF.r.2.1] at y
        exact b_X11_unseen_30 hg (loop (μ 399 13).toNat 0 0 ν (by omega) (by decide) hF (Or.inl rfl) ⟨fun h => absurd rfl h, fun h => absurd y h.1⟩)
  exact key (μ 399 2).toNat 0 (up μ 399 0 0) (by omega) FrQ.th
end Asks
