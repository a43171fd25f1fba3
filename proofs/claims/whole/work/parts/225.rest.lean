-- the model: the rest but for plan
/-- a bundle takes a tick -/
def TKb (of s : Int → Int) (b c t : Int) : Prop := OnT of s b c t ∨ ∃ k, 0 ≤ k ∧ k < it s b 9 ∧ HpT of s b k c t
/-- the least that takes the tick, or none -/
def TickP (of s : Int → Int) (c t m r : Int) : Prop := (r = -9 ∧ ∀ b, 0 ≤ b → b < m → ¬ TKb of s b c t) ∨ (0 ≤ r ∧ r < m ∧ TKb of s r c t ∧ ∀ b, 0 ≤ b → b < r → ¬ TKb of s b c t)
theorem TickP_one {of s : Int → Int} {c t m r r' : Int} (h : TickP of s c t m r) (h' : TickP of s c t m r') : r = r' := by
  rcases h with ⟨h1, h2⟩ | ⟨h1, h2, h3, h4⟩
  · rcases h' with ⟨g1, g2⟩ | ⟨g1, g2, g3, g4⟩
    · omega
    · exact absurd g3 (h2 r' g1 g2)
  · rcases h' with ⟨g1, g2⟩ | ⟨g1, g2, g3, g4⟩
    · exact absurd h3 (g2 r h1 h2)
    · by_cases e : r < r'
      · exact absurd h3 (g4 r h1 e)
      · by_cases e2 : r' < r
        · exact absurd g3 (h4 r' g1 e2)
        · omega
noncomputable def onP (s : Int → Int) (b : Int) : Int := if it s b 7 = -9 then 0 else 1
/-- a property of a bundle -/
noncomputable def propP (of s : Int → Int) (b w : Int) : Int :=
  if w = 0 then stateP of s b else if w = 1 then it s b 4 else if w = 2 then endP of s b else if w = 3 then it s b 9 + onP s b else if w = 4 then it s b 3 else if w = 5 then it s b 0 else if w = 6 then it s b 2 else if w = 7 then it s b 1 else if stateP of s b = 0 then it s b 6 else -9
noncomputable def hopP (s : Int → Int) (b k w : Int) : Int :=
  if it s b 7 ≠ -9 ∧ k = 0 then it s b (7 + w) else if k - onP s b < it s b 9 then it s b (10 + 2 * (k - onP s b) + w) else -9
section Rest
variable {G : GT} {n : Nat} {μ : Mem}
theorem S_bundle (hg : gx G = FX) {Q : Int → Nat → Mem → Prop} {b w : Int} (hM : MI μ) (q1 : ¬ ((0 ≤ b ∧ b < μ 402 2) ∧ 0 ≤ w ∧ w ≤ 8) → ∀ ν, FrQ μ ν → Q (-1) n ν) (q2 : (0 ≤ b ∧ b < μ 402 2) → 0 ≤ w ∧ w ≤ 8 → ∀ ν, FrQ μ ν → Q (propP (μ 400) (μ 402) b w) n ν) : CI G Y_X11_bundle [.inr 399, .inl b, .inl w] n μ Q := by
  have f0 : FrQ μ (up μ 399 0 0) := FrQ.th
  have hM' := hM.q f0
  obtain ⟨f4, f2, f91, f92, -⟩ := f0.r
  refine m_X11_bundle hg ?_
  generalize up μ 399 0 0 = μ1 at *
  have hs := hM'.s
  have hp := hM'.p
  have hm8 := hs.2.2.2.1
  refine S_isBundle hg ⟨hs.2.2.1, hm8⟩ (fun c => ⟨fun _ => q1 (fun h => c (by rw [f2]; exact h.1)) μ1 f0, fun z => absurd rfl z⟩) (fun c1 => ⟨fun z => absurd z (by decide), fun _ => ?_⟩)
  refine S_in hg (fun c => ⟨fun z => absurd rfl z, fun _ => q1 (fun h => c h.2) μ1 f0⟩) (fun c2 => ⟨fun _ => ?_, fun z => absurd z (by decide)⟩)
  have q := q2 (by rw [← f2]; exact c1) c2 μ1 f0
  have hB := hs.2.2.2.2 b c1.1 c1.2
  rw [← f4, ← f2] at q
  unfold propP at q
  refine S_stateOf hg (by omega) hp hB ?_
  refine ⟨fun z => ?_, fun z => ?_, fun z => ?_, fun z => ?_, fun z => ?_, fun z => ?_, fun z => ?_, fun z => ?_, fun z => ?_⟩
  · rw [if_neg (by omega), if_neg (by omega), if_neg (by omega), if_neg (by omega), if_neg (by omega), if_neg (by omega), if_neg (by omega), if_neg (by omega)] at q
    refine ⟨fun y => ?_, fun y => S_its hg (by omega) ?_⟩
    · rw [if_neg y] at q; exact q
    · rw [if_pos y] at q; exact q
  · rw [if_pos z] at q; exact q
  · rw [if_neg (by omega), if_pos z] at q
    exact S_its hg (by omega) q
  · rw [if_neg (by omega), if_neg (by omega), if_pos z] at q
    exact S_lastEnd hg hp (by omega) hB q
  · rw [if_neg (by omega), if_neg (by omega), if_neg (by omega), if_pos z] at q
    have h9 := hB.2.2.2.2.2.2.2.2.2.2.2.2.2
    unfold onP at q
    refine S_its hg (by omega) (S_isOn hg (by omega) (fun y => ⟨fun _ => ⟨by omega, ?_⟩, fun y => absurd rfl y⟩) (fun y => ⟨fun y => absurd y (by decide), fun _ => ⟨by omega, ?_⟩⟩))
    · rw [if_pos y] at q; exact q
    · rw [if_neg y] at q; exact q
  · rw [if_neg (by omega), if_neg (by omega), if_neg (by omega), if_neg (by omega), if_pos z] at q
    exact S_its hg (by omega) q
  · rw [if_neg (by omega), if_neg (by omega), if_neg (by omega), if_neg (by omega), if_neg (by omega), if_pos z] at q
    exact S_its hg (by omega) q
  · rw [if_neg (by omega), if_neg (by omega), if_neg (by omega), if_neg (by omega), if_neg (by omega), if_neg (by omega), if_pos z] at q
    exact S_its hg (by omega) q
  · rw [if_neg (by omega), if_neg (by omega), if_neg (by omega), if_neg (by omega), if_neg (by omega), if_neg (by omega), if_neg (by omega), if_pos z] at q
    exact S_its hg (by omega) q
theorem S_hop (hg : gx G = FX) {Q : Int → Nat → Mem → Prop} {b k w : Int} (hM : MI μ) (hk : inR k) (q1 : ¬ ((0 ≤ b ∧ b < μ 402 2) ∧ 0 ≤ k ∧ 0 ≤ w ∧ w ≤ 1) → ∀ ν, FrQ μ ν → Q (-1) n ν) (q2 : (0 ≤ b ∧ b < μ 402 2) → 0 ≤ k → 0 ≤ w ∧ w ≤ 1 → ∀ ν, FrQ μ ν → Q (hopP (μ 402) b k w) n ν) : CI G Y_X11_hop [.inr 399, .inl b, .inl k, .inl w] n μ Q := by
  have f0 : FrQ μ (up μ 399 0 0) := FrQ.th
  have hM' := hM.q f0
  obtain ⟨f4, f2, f91, f92, -⟩ := f0.r
  refine m_X11_hop hg ?_
  generalize up μ 399 0 0 = μ1 at *
  have hs := hM'.s
  have hp := hM'.p
  have hm8 := hs.2.2.2.1
  refine S_isBundle hg ⟨hs.2.2.1, hm8⟩ (fun c => ⟨fun _ => q1 (fun h => c (by rw [f2]; exact h.1)) μ1 f0, fun z => absurd rfl z⟩) (fun c1 => ⟨fun z => absurd z (by decide), fun _ => ⟨fun z => q1 (fun h => by omega) μ1 f0, fun c3 => ?_⟩⟩)
  refine S_in hg (fun c => ⟨fun z => absurd rfl z, fun _ => q1 (fun h => c h.2.2) μ1 f0⟩) (fun c2 => ⟨fun _ => ?_, fun z => absurd z (by decide)⟩)
  have q := q2 (by rw [← f2]; exact c1) (by omega) c2 μ1 f0
  have hB := hs.2.2.2.2 b c1.1 c1.2
  rw [← f2] at q
  have h90 := hB.2.2.2.2.2.2.2.2.2.2.2.2.2.1
  have h95 := hB.2.2.2.2.2.2.2.2.2.2.2.2.2.2.1
  unfold hopP at q
  have fin : ∀ u, 0 ≤ u → u ≤ k → u = k - onP (μ1 402) b → ¬ (it (μ1 402) b 7 ≠ -9 ∧ k = 0) → B_X11_hop_65 G Q n μ1 b w u := by
    intro u u0 uk eu hne
    rw [if_neg hne, ← eu] at q
    refine b_X11_hop_65 hg (S_its hg (by omega) ⟨fun z => ?_, fun z => ⟨by omega, by omega, by omega, S_its hg (by omega) ?_⟩⟩)
    · rw [if_neg (by omega)] at q; exact q
    · rw [if_pos (by omega)] at q; exact q
  have fifty : ¬ (it (μ1 402) b 7 ≠ -9 ∧ k = 0) → B_X11_hop_50 G Q n μ1 b k w := by
    intro hne
    unfold onP at fin
    refine b_X11_hop_50 hg (S_isOn hg (by omega) (fun y => ⟨fun _ => ?_, fun z => absurd rfl z⟩) (fun y => ⟨fun z => absurd z (by decide), fun _ => ⟨?_, ?_⟩⟩))
    · exact fin k (by omega) (by omega) (by rw [if_pos y]; omega) hne
    · unfold inR at *; omega
    · exact fin (k - 1) (by omega) (by omega) (by rw [if_neg y]) hne
  refine S_isOn hg (by omega) (fun y => ⟨fun _ => fifty (fun h => h.1 y), fun z => absurd rfl z⟩) (fun y => ⟨fun z => absurd z (by decide), fun _ => ⟨fun z => fifty (fun h => z h.2), fun z => ⟨by omega, S_its hg (by omega) ?_⟩⟩⟩)
  rw [if_pos ⟨y, z⟩] at q
  exact q
theorem S_takesTick (hg : gx G = FX) {Q : Int → Nat → Mem → Prop} {b c f t : Int} (hb : 0 ≤ b ∧ b ≤ 7) (hc : 0 ≤ c ∧ c ≤ 7) (hw : 1 ≤ it (μ 402) b 0 ∧ it (μ 402) b 0 ≤ 20) (hr : 1 ≤ cf (μ 400) c 4 ∧ cf (μ 400) c 4 ≤ 9) (hf : -1000 ≤ f ∧ f ≤ 1000)
    (q0 : ¬ (f ≤ t ∧ t < f + tkD (μ 400) (it (μ 402) b 0) c) → Q 0 n μ) (q1 : f ≤ t ∧ t < f + tkD (μ 400) (it (μ 402) b 0) c → Q 1 n μ) : CI G Y_X11_takesTick [.inr 399, .inl b, .inl c, .inl f, .inl t] n μ Q := by
  have hd := tkD_le hw.1 hw.2 hr.1 hr.2
  refine m_X11_takesTick hg ⟨fun z => q0 (fun h => by omega), fun z => S_its hg (by omega) (S_ticks hg hc hw hr ⟨by omega, fun y => q0 (fun h => by omega), fun y => q1 ⟨by omega, by omega⟩⟩)⟩
theorem S_tick (hg : gx G = FX) {Q : Int → Nat → Mem → Prop} {c t : Int} (hM : MI μ) (q1 : ¬ ((0 ≤ c ∧ c < μ 399 2) ∧ μ 402 0 ≤ t ∧ t ≤ 99) → ∀ ν, FrQ μ ν → Q (-1) n ν) (q2 : (0 ≤ c ∧ c < μ 399 2) → μ 402 0 ≤ t ∧ t ≤ 99 → ∀ r, TickP (μ 400) (μ 402) c t (μ 402 2) r → ∀ ν, FrQ μ ν → Q r n ν) : CI G Y_X11_tick [.inr 399, .inl c, .inl t] n μ Q := by
  have f0 : FrQ μ (up μ 399 0 0) := FrQ.th
  have hM' := hM.q f0
  obtain ⟨f4, f2, f91, f92, -⟩ := f0.r
  refine m_X11_tick hg ?_
  generalize up μ 399 0 0 = μ1 at *
  have hs := hM'.s
  have hp := hM'.p
  have hm8 := hs.2.2.2.1
  have hm0 := hs.2.2.1
  have hc8 := hp.2.2.2.1
  refine S_isContact hg ⟨hp.2.2.1, hc8⟩ (fun z => ⟨fun _ => q1 (fun h => z (by rw [f92]; exact h.1)) μ1 f0, fun z => absurd rfl z⟩) (fun c1 => ⟨fun z => absurd z (by decide), fun _ => ?_⟩)
  refine S_in hg (fun z => ⟨fun z => absurd rfl z, fun _ => q1 (fun h => z (by rw [f2]; exact h.2)) μ1 f0⟩) (fun c2 => ⟨fun _ => ?_, fun z => absurd z (by decide)⟩)
  have q := fun r hr => q2 (by rw [← f92]; exact c1) (by rw [← f2]; exact c2) r hr μ1 f0
  rw [← f4, ← f2] at q
  have hcf := hp.2.2.2.2 c c1.1 c1.2
  have key : ∀ (d : Nat) (b : Int), b + d = μ1 402 2 → 0 ≤ b → (∀ o, 0 ≤ o → o < b → ¬ TKb (μ1 400) (μ1 402) o c t) → B_X11_tick_32 G Q n μ1 c t b := by
    intro d
    induction d with
    | zero =>
      intro b e b0 h
      have eb : b = μ1 402 2 := by omega
      subst eb
      exact b_X11_tick_32 hg ⟨fun _ => q (-9) (Or.inl ⟨rfl, h⟩), fun z => absurd (by omega) z⟩
    | succ d ih =>
      intro b e b0 h
      have hB := hs.2.2.2.2 b b0 (by omega)
      obtain ⟨w1, w2, -, -, -, -, -, -, -, -, -, -, hon, h90, h95, hh, ho8⟩ := hB
      have hd := tkD_le (of := μ1 400) (w := it (μ1 402) b 0) (c := c) w1 w2 hcf.2.2.2.2.2.2.2.2.2.1 hcf.2.2.2.2.2.2.2.2.2.2.1
      have next : ¬ TKb (μ1 400) (μ1 402) b c t → B_X11_tick_32 G Q n μ1 c t (b + 1) := fun hn => ih (b + 1) (by omega) (by omega) (fun o o0 o1 => by
        by_cases eo : o = b
        · rw [eo]; exact hn
        · exact h o o0 (by omega))
      have found : TKb (μ1 400) (μ1 402) b c t → Q b n μ1 := fun hT => q b (Or.inr ⟨b0, by omega, hT, h⟩)
      have loop : ∀ (m : Nat) (k u : Int), k + m = it (μ1 402) b 9 → 0 ≤ k → (u = 0 ∨ u = 1) → (u ≠ 0 ↔ OnT (μ1 400) (μ1 402) b c t ∨ ∃ j, 0 ≤ j ∧ j < k ∧ HpT (μ1 400) (μ1 402) b j c t) → B_X11_tick_80 G Q n μ1 c t b u k := by
        intro m
        induction m with
        | zero =>
          intro k u ek k0 h01 hu
          have ek : k = it (μ1 402) b 9 := by omega
          subst ek
          exact b_X11_tick_80 hg (S_its hg (by omega) ⟨fun _ => ⟨fun z => ⟨by omega, next (fun hT => hu.mpr hT z)⟩, fun z => found (hu.mp z)⟩, fun z => absurd (by omega) z⟩)
        | succ m ihm =>
          intro k u ek k0 h01 hu
          have hk := hh k k0 (by omega)
          have yes : (OnT (μ1 400) (μ1 402) b c t ∨ ∃ j, 0 ≤ j ∧ j < k + 1 ∧ HpT (μ1 400) (μ1 402) b j c t) → B_X11_tick_137 G Q n μ1 c t b k := fun hT =>
            b_X11_tick_137 hg ⟨by omega, ihm (k + 1) 1 (by omega) (by omega) (Or.inr rfl) ⟨fun _ => hT, fun _ => by decide⟩⟩
          have no : u = 0 → ¬ HpT (μ1 400) (μ1 402) b k c t → B_X11_tick_80 G Q n μ1 c t b 0 (k + 1) := fun u0 hk => ihm (k + 1) 0 (by omega) (by omega) (Or.inl rfl) ⟨fun z => absurd rfl z, fun hT => by
            refine absurd u0 (hu.mpr ?_)
            rcases hT with hT | ⟨j, j0, j1, hj⟩
            · exact Or.inl hT
            · by_cases ej : j = k
              · rw [ej] at hj; exact absurd hj hk
              · exact Or.inr ⟨j, j0, by omega, hj⟩⟩
          refine b_X11_tick_80 hg (S_its hg (by omega) ⟨fun z => absurd z (by omega), fun _ => ⟨fun z => yes ?_, fun z => ⟨by omega, by omega, S_its hg (by omega) ⟨fun y => ⟨by omega, no z (fun hT => y hT.1)⟩, fun y => ⟨by omega, by omega, by omega, S_its hg (by omega) (S_takesTick hg (by omega) (by omega) ⟨w1, w2⟩ (by omega) ?_ (fun x => ⟨fun _ => ⟨by omega, no z (fun hT => x hT.2)⟩, fun z => absurd rfl z⟩) (fun x => ⟨fun z => absurd z (by decide), fun _ => yes (Or.inr ⟨k, k0, by omega, y, x⟩)⟩))⟩⟩⟩⟩⟩)
          · rcases hu.mp z with hT | ⟨j, j0, j1, hj⟩
            · exact Or.inl hT
            · exact Or.inr ⟨j, j0, by omega, hj⟩
          · have e1 : hopC (μ1 402) b k = c := y
            rw [e1] at hk
            show -1000 ≤ hopB (μ1 402) b k ∧ hopB (μ1 402) b k ≤ 1000
            omega
      have off : ¬ OnT (μ1 400) (μ1 402) b c t → B_X11_tick_74 G Q n μ1 c t b := fun hO => b_X11_tick_74 hg (b_X11_tick_75 hg (loop (it (μ1 402) b 9).toNat 0 0 (by omega) (by decide) (Or.inl rfl) ⟨fun z => absurd rfl z, fun hT => hT.elim (fun z => absurd z hO) (fun ⟨j, j0, j1, _⟩ => by omega)⟩))
      refine b_X11_tick_32 hg ⟨fun z => absurd z (by omega), fun _ => S_its hg (by omega) ⟨fun y => off (fun hT => y hT.1), fun y => S_its hg (by omega) (S_takesTick hg (by omega) (by omega) ⟨w1, w2⟩ (by omega) ?_ (fun x => ⟨fun _ => off (fun hT => x hT.2), fun z => absurd rfl z⟩) (fun x => ⟨fun z => absurd z (by decide), fun _ => ?_⟩))⟩⟩
      · have := ho8 (by rw [y]; omega)
        rw [y] at this
        omega
      · exact b_X11_tick_75 hg (loop (it (μ1 402) b 9).toNat 0 1 (by omega) (by decide) (Or.inr rfl) ⟨fun _ => Or.inl ⟨y, x⟩, fun _ => by decide⟩)
  exact key (μ1 402 2).toNat 0 (by omega) (by decide) (fun o o0 o1 => by omega)
/-- the rows that worst() may change -/
def FrO (μ ν : Mem) : Prop := (∀ a, a ≠ 399 → a ≠ 406 → a ≠ 411 → a ≠ 412 → a ≠ 413 → a ≠ 414 → ν a = μ a) ∧ ∀ k, k ≠ 0 → k ≠ 24 → k ≠ 27 → ν 399 k = μ 399 k
theorem S_worst (hg : gx G = FX) {Q : Int → Nat → Mem → Prop} (hM : MI μ) (q : ∀ ν, FrO μ ν → Q (worstP (μ 399 2) (μ 400) (μ 402) (μ 399 2).toNat).1 n ν) : CI G Y_X11_worst [.inr 399] n μ Q := by
  have hp := hM.p
  have hs := hM.s
  have hc0 := hp.2.2.1
  have hc8 := hp.2.2.2.1
  refine m_X11_worst hg ?_
  refine S_copies hg (N1 := 163) (N2 := 163) St_402 St_406 (by decide) (by decide) (by decide) (fun ν0 hB0 h1 h2 => ?_)
  have aside : ∀ j, 0 ≤ j → j < 163 → ν0 406 j = μ 402 j := fun j j0 j1 => by
    have := h1 j j0 j1
    rw [Int.zero_add, up_ne (by decide)] at this
    exact this
  have hF0 : FrO μ ν0 := ⟨fun a a1 a2 _ _ _ _ => by rw [hB0 a a2, up_ne a1], fun k k0 _ _ => by rw [hB0 399 (by decide), up_oth k0]⟩
  have key : ∀ (d k : Nat) (ν : Mem), (k : Int) + d = μ 399 2 → FrO μ ν → ν 406 = ν0 406 → B_X11_worst_26 G Q n ν (worstP (μ 399 2) (μ 400) (μ 402) k).1 (worstP (μ 399 2) (μ 400) (μ 402) k).2 k := by
    intro d
    induction d with
    | zero =>
      intro k ν e hF h6
      have ek : k = (μ 399 2).toNat := by omega
      subst ek
      exact b_X11_worst_26 hg ⟨fun _ => q ν hF, fun z => absurd (by rw [hF.2 2 (by decide) (by decide) (by decide)]; omega) z⟩
    | succ d ih =>
      intro k ν e hF h6
      have i := ih (k + 1)
      have v2 : ν 402 = μ 402 := hF.1 402 (by decide) (by decide) (by decide) (by decide) (by decide) (by decide)
      have v4 : ν 400 = μ 400 := hF.1 400 (by decide) (by decide) (by decide) (by decide) (by decide) (by decide)
      have v9 : ν 399 2 = μ 399 2 := hF.2 2 (by decide) (by decide) (by decide)
      unfold worstP at i
      refine b_X11_worst_26 hg ⟨fun z => absurd z (by rw [v9]; omega), fun _ => S_isMissed hg (fun y => ⟨fun z => absurd rfl z, fun _ => ?_⟩) (fun y => ⟨fun _ => ⟨by omega, ?_⟩, fun z => absurd z (by decide)⟩)⟩
      · rw [v2] at y
        obtain ⟨r, s', -, hPA⟩ := loss_PA (c := k) hp hs
        have hsl : SR (μ 399 1) (μ 399 2) (μ 400) (lossP (μ 400) (μ 402) k) := loseS_SR _ (SR_set1 hs)
        have hok := PA_ok hp r hsl hPA
        have hafter := afterP_is hp hsl hPA
        have es2 : s' 2 = μ 402 2 := (hok.2.1 2 (by decide)).trans ((loseS_lo _ (by decide)).trans (set1_ne (by decide)))
        refine S_loses hg hp hs ⟨by omega, by omega⟩ hPA v9 v4 v2 (fun ξ hx hx2 => ?_)
        have x4 : ξ 400 = μ 400 := (hx.1 400 (by decide) (by decide) (by decide) (by decide) (by decide) (by decide)).trans v4
        refine S_countOf hg (nd := μ 399 1) (cn := μ 399 2) (by rw [x4]; exact hp) (by rw [x4, hx2]; exact hok.1) ?_
        rw [x4, hx2]
        have en : countP (μ 400) s' 0 (s' 2).toNat = lossN (μ 399 2) (μ 400) (μ 402) k := by unfold lossN; rw [hafter, es2]
        rw [en]
        have hout : OutS (μ 402) s' := by
          have h1 : OutS (μ 402) (lossP (μ 400) (μ 402) k) := by
            have gen : ∀ m : Nat, m ≤ 8 → OutS (missP (μ 402) k) (loseS (μ 400) (missP (μ 402) k) k m) := by
              intro m
              induction m with
              | zero => intro _; exact OutS.rf
              | succ m ihm =>
                intro hm
                unfold loseS
                by_cases g : lostB (μ 400) (missP (μ 402) k) k m
                · rw [if_pos g]
                  by_cases g2 : cutB (μ 400) (missP (μ 402) k) k m
                  · rw [if_pos g2]
                    exact ((ihm (by omega)).set (by omega) (by omega)).set (w := 9) (by omega) (by omega)
                  · rw [if_neg g2]
                    exact (ihm (by omega)).set (w := 9) (by omega) (by omega)
                · rw [if_neg g]
                  exact ihm (by omega)
            have hm8 := hs.2.2.2.1
            exact (OutS.rf.set0 (by decide)).tr (gen _ (by omega))
          exact h1.tr (PA_out hp r hsl hPA)
        have back : ∀ (a b : Int), (∀ ζ, FrO μ ζ → ζ 406 = ν0 406 → B_X11_worst_26 G Q n ζ a b (k + 1)) → B_X11_worst_78 G Q n ξ a k b := by
          intro a b hnx
          refine b_X11_worst_78 hg (S_copies hg (N1 := 163) (N2 := 163) St_406 St_402 (by decide) (by decide) (by decide) (fun ζ hB g1 g2 => ⟨by omega, ?_⟩))
          have x6 : ξ 406 = ν0 406 := (hx.1 406 (by decide) (by decide) (by decide) (by decide) (by decide) (by decide)).trans h6
          refine hnx ζ ⟨fun a a1 a2 a3 a4 a5 a6 => ?_, fun j j0 j1 j2 => ?_⟩ ((hB 406 (by decide)).trans x6)
          · by_cases ea : a = 402
            · rw [ea]
              funext j
              by_cases hj : 0 ≤ j ∧ j < 163
              · have := g1 j hj.1 hj.2
                rw [Int.zero_add] at this
                rw [this, x6, aside j hj.1 hj.2]
              · rw [g2 j (by omega), hx2, hout j hj]
            · rw [hB a ea, hx.1 a a1 ea a3 a4 a5 a6, hF.1 a a1 a2 a3 a4 a5 a6]
          · rw [hB 399 (by decide), hx.2 j j1 j2, hF.2 j j0 j1 j2]
        refine ⟨fun z => b_X11_worst_65 hg ⟨fun _ => back _ _ (fun ζ hz h => ?_), fun z2 => absurd z z2⟩, fun z => b_X11_worst_65 hg ⟨fun z2 => absurd z2 z, fun _ => back _ _ (fun ζ hz h => ?_)⟩⟩
        · have i' := i ζ (by omega) hz h
          rw [if_neg (fun h => by omega)] at i'
          exact i'
        · have i' := i ζ (by omega) hz h
          rw [if_pos ⟨y, by omega⟩] at i'
          exact i'
      · rw [v2] at y
        have i' := i ν (by omega) hF h6
        rw [if_neg (fun h => h.1 y)] at i'
        exact i'
  exact key (μ 399 2).toNat 0 ν0 (by omega) hF0 rfl
theorem S_contact (hg : gx G = FX) {Q : Int → Nat → Mem → Prop} {c w : Int} (hM : MI μ) (q1 : ¬ ((0 ≤ c ∧ c < μ 399 2) ∧ 0 ≤ w ∧ w ≤ 6) → ∀ ν, FrQ μ ν → Q (-1) n ν)
    (q2 : (0 ≤ c ∧ c < μ 399 2) → 0 ≤ w ∧ w ≤ 6 → ∀ ν, FrQ μ ν → Q (@ite _ (w < 6) _ (cf (μ 400) c w) (@ite _ (msB (μ 402 1) c) (Classical.propDecidable _) 1 0)) n ν) : CI G Y_X11_contact [.inr 399, .inl c, .inl w] n μ Q := by
  have f0 : FrQ μ (up μ 399 0 0) := FrQ.th
  have hM' := hM.q f0
  obtain ⟨f4, f2, f91, f92, -⟩ := f0.r
  refine m_X11_contact hg ?_
  generalize up μ 399 0 0 = μ1 at *
  have hp := hM'.p
  have hc8 := hp.2.2.2.1
  refine S_isContact hg ⟨hp.2.2.1, hc8⟩ (fun z => ⟨fun _ => q1 (fun h => z (by rw [f92]; exact h.1)) μ1 f0, fun z => absurd rfl z⟩) (fun c1 => ⟨fun z => absurd z (by decide), fun _ => ?_⟩)
  refine S_in hg (fun z => ⟨fun z => absurd rfl z, fun _ => q1 (fun h => z h.2) μ1 f0⟩) (fun c2 => ⟨fun _ => ?_, fun z => absurd z (by decide)⟩)
  have q := q2 (by rw [← f92]; exact c1) c2 μ1 f0
  rw [← f4, ← f2] at q
  refine ⟨fun z => S_isMissed hg (fun y => ⟨fun _ => ?_, fun z => absurd rfl z⟩) (fun y => ⟨fun z => absurd z (by decide), fun _ => ?_⟩), fun z => ⟨by omega, by omega, by omega, ?_⟩⟩
  · rw [if_neg (by omega), if_neg y] at q; exact q
  · rw [if_neg (by omega), if_pos y] at q; exact q
  · rw [if_pos (by omega)] at q; exact q
theorem S_sees (hg : gx G = FX) {Q : Int → Nat → Mem → Prop} {v g a : Int} (hM : MI μ) (h13 : 0 ≤ μ 399 13 ∧ μ 399 13 ≤ 6) (q1 : ¬ ((0 ≤ v ∧ v < μ 399 1) ∧ (0 ≤ g ∧ g < μ 399 1) ∧ v ≠ g ∧ 0 ≤ a ∧ a ≤ 121) → ∀ ν, FrQ μ ν → Q (-1) n ν)
    (q2 : (0 ≤ v ∧ v < μ 399 1) → (0 ≤ g ∧ g < μ 399 1) → v ≠ g → 0 ≤ a ∧ a ≤ 121 → μ 399 13 = 6 → ∀ ν, FrQ μ ν → Q (-3) n ν)
    (q3 : (0 ≤ v ∧ v < μ 399 1) → (0 ≤ g ∧ g < μ 399 1) → v ≠ g → 0 ≤ a ∧ a ≤ 121 → μ 399 13 < 6 → Q (μ 399 13 + 1) n (up (up (up (up (up μ 399 0 0) 407 (μ 399 13) v) 408 (μ 399 13) g) 409 (μ 399 13) a) 399 13 (μ 399 13 + 1))) : CI G Y_X11_sees [.inr 399, .inl v, .inl g, .inl a] n μ Q := by
  have f0 : FrQ μ (up μ 399 0 0) := FrQ.th
  have hM' := hM.q f0
  obtain ⟨f4, f2, f91, f92, f98, f13, -⟩ := f0.r
  refine m_X11_sees hg ?_
  generalize up μ 399 0 0 = μ1 at *
  have hp := hM'.p
  refine S_isNode hg ⟨hp.1, hp.2.1⟩ (fun c => ⟨fun _ => q1 (fun h => c (by rw [f91]; exact h.1)) μ1 f0, fun z => absurd rfl z⟩) (fun c1 => ⟨fun z => absurd z (by decide), fun _ => ?_⟩)
  refine S_isNode hg ⟨hp.1, hp.2.1⟩ (fun c => ⟨fun _ => q1 (fun h => c (by rw [f91]; exact h.2.1)) μ1 f0, fun z => absurd rfl z⟩) (fun c2 => ⟨fun z => absurd z (by decide), fun _ => ⟨fun z => q1 (fun h => h.2.2.1 z) μ1 f0, fun c3 => ?_⟩⟩)
  refine S_in hg (fun c => ⟨fun z => absurd rfl z, fun _ => q1 (fun h => c h.2.2.2) μ1 f0⟩) (fun c4 => ⟨fun _ => ⟨fun z => ?_, fun z => ?_⟩, fun z => absurd z (by decide)⟩)
  · have q := q3 (by rw [← f91]; exact c1) (by rw [← f91]; exact c2) c3 c4 (by omega)
    have e1 : ∀ (ν : Mem) (a k v : Int), a ≠ 399 → (up ν a k v) 399 13 = ν 399 13 := fun ν a k v h => by rw [up_ne (fun e => h e.symm)]
    rw [e1 _ _ _ _ (show (409 : Int) ≠ 399 by decide), e1 _ _ _ _ (show (408 : Int) ≠ 399 by decide), e1 _ _ _ _ (show (407 : Int) ≠ 399 by decide), f13]
    refine ⟨by omega, by omega, by omega, by omega, ?_⟩
    rw [up_self]
    exact q
  · exact q2 (by rw [← f91]; exact c1) (by rw [← f91]; exact c2) c3 c4 (by omega) μ1 f0
theorem S_forget (hg : gx G = FX) {Q : Int → Nat → Mem → Prop} (q : Q (μ 399 13) n (up (up μ 399 0 0) 399 13 0)) : CI G Y_X11_forget [.inr 399] n μ Q := by
  refine m_X11_forget hg ?_
  rw [th_399 μ (by decide)]
  exact q
theorem S_clear (hg : gx G = FX) {Q : Int → Nat → Mem → Prop} (q : Q (μ 399 17) n (up (up μ 399 0 0) 399 17 0)) : CI G Y_X11_clear [.inr 399] n μ Q := by
  refine m_X11_clear hg ?_
  rw [th_399 μ (by decide)]
  exact q
theorem S_type (hg : gx G = FX) {Q : Int → Nat → Mem → Prop} {v : Int} (h17 : 0 ≤ μ 399 17 ∧ μ 399 17 ≤ 150) (q1 : ¬ (0 ≤ v ∧ v ≤ 255) → ∀ ν, FrQ μ ν → Q (-1) n ν) (q2 : 0 ≤ v ∧ v ≤ 255 → μ 399 17 = 150 → ∀ ν, FrQ μ ν → Q (-3) n ν)
    (q3 : 0 ≤ v ∧ v ≤ 255 → μ 399 17 < 150 → Q (μ 399 17 + 1) n (up (up (up μ 399 0 0) 410 (μ 399 17) v) 399 17 (μ 399 17 + 1))) : CI G Y_X11_type [.inr 399, .inl v] n μ Q := by
  have f0 : FrQ μ (up μ 399 0 0) := FrQ.th
  have f17 : (up μ 399 0 0) 399 17 = μ 399 17 := up_oth (by decide)
  refine m_X11_type hg ?_
  generalize up μ 399 0 0 = μ1 at *
  refine S_in hg (fun c => ⟨fun z => absurd rfl z, fun _ => q1 c μ1 f0⟩) (fun c => ⟨fun _ => ⟨fun z => ?_, fun z => q2 c (by omega) μ1 f0⟩, fun z => absurd z (by decide)⟩)
  have e : (up μ1 410 (μ1 399 17) v) 399 17 = μ 399 17 := by rw [up_ne (by decide), f17]
  rw [e]
  refine ⟨by omega, by omega, ?_⟩
  rw [up_self, f17]
  exact q3 c (by omega)
theorem S_keep (hg : gx G = FX) {Q : Int → Nat → Mem → Prop} {i : Int} (q1 : ¬ (0 ≤ i ∧ i ≤ 1) → ∀ ν, FrQ μ ν → Q (-1) n ν)
    (q2 : 0 ≤ i ∧ i ≤ 1 → ∀ ν, (∀ a, a ≠ 399 → a ≠ 404 → a ≠ 405 → ν a = μ a) → (∀ k, k ≠ 0 → ν 399 k = μ 399 k) → (∀ k, ν 405 k = if k = i then 1 else μ 405 k) → (∀ j, 0 ≤ j → j < 163 → ν 404 (163 * i + j) = μ 402 j) → (∀ j, ¬ (163 * i ≤ j ∧ j < 163 * i + 163) → ν 404 j = μ 404 j) → Q (μ 402 2) n ν) : CI G Y_X11_keep [.inr 399, .inl i] n μ Q := by
  have f0 : FrQ μ (up μ 399 0 0) := FrQ.th
  refine m_X11_keep hg ?_
  refine S_in hg (fun c => ⟨fun z => absurd rfl z, fun _ => q1 c _ f0⟩) (fun c => ⟨fun _ => ⟨by omega, ?_⟩, fun z => absurd z (by decide)⟩)
  refine S_copies hg (N1 := 163) (N2 := 326) St_402 St_404 (by decide) (by omega) (by omega) (fun ν hB h1 h2 => ⟨by omega, ?_⟩)
  have e2 : (up ν 405 i 1) 402 2 = μ 402 2 := by rw [up_ne (by decide), hB 402 (by decide), up_ne (by decide)]
  rw [e2]
  refine q2 c _ (fun a a1 a2 a3 => ?_) (fun k k0 => ?_) (fun k => ?_) (fun j j0 j1 => ?_) (fun j hj => ?_)
  · rw [up_ne a3, hB a a2, up_ne a1]
  · rw [up_ne (by decide), hB 399 (by decide), up_oth k0]
  · by_cases e : k = i
    · rw [e, up_self, if_pos rfl]
    · rw [up_oth e, if_neg e, hB 405 (by decide), up_ne (by decide)]
  · have := h1 j j0 j1
    rw [Int.zero_add, up_ne (by decide)] at this
    rw [up_ne (by decide), this]
  · have := h2 j hj
    rw [up_ne (by decide)] at this
    rw [up_ne (by decide), this]
theorem S_back (hg : gx G = FX) {Q : Int → Nat → Mem → Prop} {i : Int} (q1 : ¬ (0 ≤ i ∧ i ≤ 1) → ∀ ν, FrQ μ ν → Q (-1) n ν) (q2 : 0 ≤ i ∧ i ≤ 1 → μ 405 i = 0 → ∀ ν, FrQ μ ν → Q (-2) n ν)
    (q3 : 0 ≤ i ∧ i ≤ 1 → μ 405 i ≠ 0 → ∀ ν, (∀ a, a ≠ 399 → a ≠ 402 → ν a = μ a) → (∀ k, k ≠ 0 → k ≠ 8 → ν 399 k = μ 399 k) → ν 399 8 = 0 → (∀ j, 0 ≤ j → j < 163 → ν 402 j = μ 404 (163 * i + j)) → Q (ν 402 2) n ν) : CI G Y_X11_back [.inr 399, .inl i] n μ Q := by
  have f0 : FrQ μ (up μ 399 0 0) := FrQ.th
  refine m_X11_back hg ?_
  refine S_in hg (fun c => ⟨fun z => absurd rfl z, fun _ => q1 c _ f0⟩) (fun c => ⟨fun _ => ⟨by omega, fun _ => ?_⟩, fun z => absurd z (by decide)⟩)
  rw [th_ne μ (a := 405) (by decide)]
  refine ⟨fun z => ⟨by omega, ?_⟩, fun z => q2 c z _ f0⟩
  refine S_copies hg (N1 := 326) (N2 := 163) St_404 St_402 (by decide) (by omega) (by omega) (fun ν hB h1 h2 => ?_)
  refine q3 c z _ (fun a a1 a2 => ?_) (fun k k0 k8 => ?_) ?_ (fun j j0 j1 => ?_)
  · rw [up_ne a1, hB a a2, up_ne a1]
  · rw [up_oth k8, hB 399 (by decide), up_oth k0]
  · rw [up_self]
  · have := h1 j j0 j1
    rw [Int.zero_add, up_ne (by decide)] at this
    rw [up_ne (by decide), this]
/-- a number that describes the model -/
noncomputable def cntW (μ : Mem) (w : Int) : Int :=
  if w = 0 then μ 399 1 else if w = 1 then μ 399 2 else if w = 2 then μ 402 2 else if w = 3 then μ 402 0 else if w = 4 then countP (μ 400) (μ 402) 0 (μ 402 2).toNat else if w = 5 then countP (μ 400) (μ 402) 1 (μ 402 2).toNat else if w = 6 then μ 399 13 else if w = 7 then μ 399 17 else if w = 8 then μ 399 8 else -1
theorem S_count (hg : gx G = FX) {Q : Int → Nat → Mem → Prop} {w : Int} (hM : MI μ) (q : ∀ ν, FrQ μ ν → Q (cntW μ w) n ν) : CI G Y_X11_count [.inr 399, .inl w] n μ Q := by
  have f0 : FrQ μ (up μ 399 0 0) := FrQ.th
  have hM' := hM.q f0
  have q := q _ f0
  obtain ⟨f4, f2, f91, f92, f98, f13, -⟩ := f0.r
  have f17 : (up μ 399 0 0) 399 17 = μ 399 17 := up_oth (by decide)
  unfold cntW at q
  rw [← f4, ← f2, ← f91, ← f92, ← f98, ← f13, ← f17] at q
  refine m_X11_count hg ?_
  generalize up μ 399 0 0 = μ1 at *
  refine ⟨fun z => ?_, fun z => ?_, fun z => ?_, fun z => ?_, fun z => ?_, fun z => ?_, fun z => ?_, fun z => ?_, fun z => ?_, fun z => ?_⟩
  · rw [if_neg (by omega), if_neg (by omega), if_neg (by omega), if_neg (by omega), if_neg (by omega), if_neg (by omega), if_neg (by omega), if_neg (by omega), if_neg (by omega)] at q
    exact q
  · rw [if_pos z] at q; exact q
  · rw [if_neg (by omega), if_pos z] at q; exact q
  · rw [if_neg (by omega), if_neg (by omega), if_pos z] at q; exact q
  · rw [if_neg (by omega), if_neg (by omega), if_neg (by omega), if_pos z] at q; exact q
  · rw [if_neg (by omega), if_neg (by omega), if_neg (by omega), if_neg (by omega), if_pos z] at q
    exact S_countOf hg hM'.p hM'.s q
  · rw [if_neg (by omega), if_neg (by omega), if_neg (by omega), if_neg (by omega), if_neg (by omega), if_pos z] at q
    exact S_countOf hg hM'.p hM'.s q
  · rw [if_neg (by omega), if_neg (by omega), if_neg (by omega), if_neg (by omega), if_neg (by omega), if_neg (by omega), if_pos z] at q; exact q
  · rw [if_neg (by omega), if_neg (by omega), if_neg (by omega), if_neg (by omega), if_neg (by omega), if_neg (by omega), if_neg (by omega), if_pos z] at q; exact q
  · rw [if_neg (by omega), if_neg (by omega), if_neg (by omega), if_neg (by omega), if_neg (by omega), if_neg (by omega), if_neg (by omega), if_neg (by omega), if_pos z] at q; exact q
end Rest
