-- the model: which ticks are taken, when a hop may begin
def OnT (of s : Int → Int) (o c t : Int) : Prop := it s o 7 = c ∧ it s o 8 ≤ t ∧ t < it s o 8 + tkD of (it s o 0) c
def HpT (of s : Int → Int) (o k c t : Int) : Prop := hopC s o k = c ∧ hopB s o k ≤ t ∧ t < hopB s o k + tkD of (it s o 0) c
/-- one of the first m bundles but x takes the tick: by its hop on its way, or, if its priority is no lower, by a hop to come -/
def TK (of s : Int → Int) (x pr m c t : Int) : Prop := ∃ o, 0 ≤ o ∧ o < m ∧ (OnT of s o c t ∨ (o ≠ x ∧ pr ≤ it s o 3 ∧ ∃ k, 0 ≤ k ∧ k < it s o 9 ∧ HpT of s o k c t))
def SR (nd cn : Int) (of s : Int → Int) : Prop := 0 ≤ s 0 ∧ s 0 ≤ 99 ∧ 0 ≤ s 2 ∧ s 2 ≤ 8 ∧ ∀ b, 0 ≤ b → b < s 2 → BR nd cn of s b
/-- nothing but one row has changed -/
def But (a0 : Int) (μ ν : Mem) : Prop := ∀ a, a ≠ a0 → ν a = μ a
theorem But.rf {a0 : Int} {μ : Mem} : But a0 μ μ := fun _ _ => rfl
theorem But.up {a0 k v : Int} {μ ν : Mem} (h : But a0 μ ν) : But a0 μ (up ν a0 k v) := fun a ha => by rw [up_ne ha]; exact h a ha
theorem But.tr {a0 : Int} {μ ν ξ : Mem} (h : But a0 μ ν) (h2 : But a0 ν ξ) : But a0 μ ξ := fun a ha => by rw [h2 a ha, h a ha]
section Taken
variable {G : GT} {n : Nat} {μ : Mem}
theorem S_marks (hg : gx G = FX) {Q : Nat → Mem → Prop} {w c f : Int} (h : 0 ≤ c ∧ c ≤ 7) (hw : 1 ≤ w ∧ w ≤ 20) (hr : 1 ≤ cf (μ 400) c 4 ∧ cf (μ 400) c 4 ≤ 9) (hf : 0 ≤ f ∧ f + tkD (μ 400) w c ≤ 100)
    (q : ∀ ν, But 411 μ ν → (∀ c' t', 0 ≤ t' → t' < 100 → ν 411 (100 * c' + t') = if c' = c ∧ f ≤ t' ∧ t' < f + tkD (μ 400) w c then 1 else μ 411 (100 * c' + t')) → Q n ν) : CV G Y_X11_marks [.inr 399, .inl w, .inl c, .inl f] n μ Q := by
  have hd := tkD_le hw.1 hw.2 hr.1 hr.2
  have key : ∀ (d : Nat) (t : Int) (ν : Mem), t + d = f + tkD (μ 400) w c → f ≤ t → But 411 μ ν → (∀ c' t', 0 ≤ t' → t' < 100 → ν 411 (100 * c' + t') = if c' = c ∧ f ≤ t' ∧ t' < t then 1 else μ 411 (100 * c' + t')) → B_X11_marks_3 G Q n ν w c f t := by
    intro d
    induction d with
    | zero =>
      intro t ν e hft hB hν
      have e4 := hB 400 (by decide)
      refine b_X11_marks_3 hg (S_ticks hg h hw (by rw [e4]; exact hr) ?_)
      rw [e4]
      refine ⟨by omega, fun _ => ?_, fun c => absurd (by omega) c⟩
      have : t = f + tkD (μ 400) w c := by omega
      subst this
      exact q ν hB hν
    | succ d ih =>
      intro t ν e hft hB hν
      have e4 := hB 400 (by decide)
      refine b_X11_marks_3 hg (S_ticks hg h hw (by rw [e4]; exact hr) ?_)
      rw [e4]
      refine ⟨by omega, fun c => absurd c (by omega), fun _ => ⟨by omega, by omega, by omega, by omega, ih (t + 1) _ (by omega) (by omega) hB.up (fun c' t' h0 h1 => ?_)⟩⟩
      by_cases e5 : 100 * c' + t' = 100 * c + t
      · rw [e5, up_self, if_pos (by omega)]
      · rw [up_oth e5, hν c' t' h0 h1]
        by_cases e6 : c' = c ∧ f ≤ t' ∧ t' < t
        · rw [if_pos e6, if_pos (by omega)]
        · rw [if_neg e6, if_neg (by omega)]
  refine m_X11_marks hg (key (tkD (μ 400) w c).toNat f μ (by omega) (by omega) But.rf (fun c' t' _ _ => ?_))
  rw [if_neg (by omega)]
/-- the marks stand for p -/
def Mk (ν : Mem) (p : Int → Int → Prop) : Prop := ∀ c t, 0 ≤ c → c < 8 → 0 ≤ t → t < 100 → (ν 411 (100 * c + t) = 1 ↔ p c t)
theorem S_laysTaken (hg : gx G = FX) {Q : Nat → Mem → Prop} {nd cn x pr : Int} (hp : PW nd cn (μ 400)) (hs : SR nd cn (μ 400) (μ 402))
    (q : ∀ ν, But 411 μ ν → Mk ν (TK (μ 400) (μ 402) x pr (μ 402 2)) → Q n ν) : CV G Y_X11_laysTaken [.inr 399, .inl x, .inl pr] n μ Q := by
  obtain ⟨hn0, hn1, hm0, hm1, hb⟩ := hs
  have hc8 := hp.2.2.2.1
  have hof := hp.2.2.2.2
  -- the loop over one bundle's hops
  have inner : ∀ (o : Int) (_ : 0 ≤ o) (_ : o < μ 402 2) (p : Int → Int → Prop), (∀ ν, But 411 μ ν → Mk ν (fun c t => p c t ∨ (o ≠ x ∧ pr ≤ it (μ 402) o 3 ∧ ∃ k, 0 ≤ k ∧ k < it (μ 402) o 9 ∧ HpT (μ 400) (μ 402) o k c t)) → B_X11_laysTaken_24 G Q n ν x pr (o + 1)) →
      ∀ (d : Nat) (k : Int) (ν : Mem), k + d = it (μ 402) o 9 → 0 ≤ k → But 411 μ ν → Mk ν (fun c t => p c t ∨ (o ≠ x ∧ pr ≤ it (μ 402) o 3 ∧ ∃ j, 0 ≤ j ∧ j < k ∧ HpT (μ 400) (μ 402) o j c t)) → B_X11_laysTaken_69 G Q n ν x pr o k := by
    intro o ho0 ho1 p hq d
    have hbo := hb o ho0 ho1
    obtain ⟨w1, w2, -, -, -, -, -, -, -, -, -, -, -, hh0, hh5, hh, -⟩ := hbo
    induction d with
    | zero =>
      intro k ν e hk hB hν
      have e2 := hB 402 (by decide)
      refine b_X11_laysTaken_69 hg (S_its hg (by omega) ?_)
      rw [e2]
      refine ⟨fun _ => ⟨by omega, ?_⟩, fun c => absurd (by omega) c⟩
      have e' : k = it (μ 402) o 9 := by omega
      subst e'
      exact hq ν hB hν
    | succ d ih =>
      intro k ν e hk hB hν
      have e2 := hB 402 (by decide)
      have e4 := hB 400 (by decide)
      have h1 := hh k hk (by omega)
      refine b_X11_laysTaken_69 hg (S_its hg (by omega) ?_)
      rw [e2]
      refine ⟨fun c => absurd c (by omega), fun _ => ⟨fun c => ⟨by omega, ?_⟩, fun c => S_its hg (by omega) ?_⟩⟩
      · exact hq ν hB (fun c1 t h0 h2 h3 h4 => by rw [hν c1 t h0 h2 h3 h4]; exact or_congr Iff.rfl ⟨fun q => absurd c q.1, fun q => absurd c q.1⟩)
      · rw [e2]
        refine ⟨fun c2 => ⟨by omega, ?_⟩, fun c2 => S_its hg (by omega) ⟨by omega, by omega, S_its hg (by omega) ⟨by omega, by omega, by omega, S_its hg (by omega) ?_⟩⟩⟩
        · exact hq ν hB (fun c1 t h0 h2 h3 h4 => by rw [hν c1 t h0 h2 h3 h4]; exact or_congr Iff.rfl ⟨fun q => absurd q.2.1 (by omega), fun q => absurd q.2.1 (by omega)⟩)
        · rw [e2]
          have hc := hof (hopC (μ 402) o k) h1.1 h1.2.1
          refine S_marks hg (c := hopC (μ 402) o k) (f := hopB (μ 402) o k) (by omega) ⟨w1, w2⟩ (by rw [e4]; omega) (by rw [e4]; omega) (fun ξ hB2 hξ => ⟨by omega, ih (k + 1) ξ (by omega) (by omega) (hB.tr hB2) (fun c1 t h0 h2 h3 h4 => ?_)⟩)
          rw [hξ c1 t h3 h4, e4]
          have hν := hν c1 t h0 h2 h3 h4
          by_cases e6 : c1 = hopC (μ 402) o k ∧ hopB (μ 402) o k ≤ t ∧ t < hopB (μ 402) o k + tkD (μ 400) (it (μ 402) o 0) (hopC (μ 402) o k)
          · rw [if_pos e6]
            refine ⟨fun _ => Or.inr ⟨c, by omega, k, hk, by omega, e6.1.symm, e6.2.1, by rw [e6.1]; exact e6.2.2⟩, fun _ => rfl⟩
          · rw [if_neg e6, hν]
            refine or_congr Iff.rfl ⟨fun ⟨g1, g2, j, g3, g4, g5⟩ => ⟨g1, g2, j, g3, by omega, g5⟩, fun ⟨g1, g2, j, g3, g4, g5⟩ => ⟨g1, g2, j, g3, ?_, g5⟩⟩
            by_cases ej : j = k
            · exfalso
              subst ej
              obtain ⟨k1, k2, k3⟩ := g5
              exact e6 ⟨k1.symm, k2, by rw [k1]; exact k3⟩
            · omega
  -- the loop over the bundles
  have outer : ∀ (d : Nat) (o : Int) (ν : Mem), o + d = μ 402 2 → 0 ≤ o → But 411 μ ν → Mk ν (TK (μ 400) (μ 402) x pr o) → B_X11_laysTaken_24 G Q n ν x pr o := by
    intro d
    induction d with
    | zero =>
      intro o ν e ho hB hν
      refine b_X11_laysTaken_24 hg ⟨fun _ => ?_, fun c => absurd (by rw [hB 402 (by decide)]; omega) c⟩
      have e' : o = μ 402 2 := by omega
      rw [e'] at hν
      exact q ν hB hν
    | succ d ih =>
      intro o ν e ho hB hν
      have e2 := hB 402 (by decide)
      have e4 := hB 400 (by decide)
      have hbo := hb o ho (by omega)
      obtain ⟨w1, w2, -, -, -, -, -, -, -, -, -, -, hon, hh0, hh5, hh, hsi⟩ := hbo
      have go : ∀ (p : Int → Int → Prop) (ξ : Mem), But 411 μ ξ → Mk ξ p → (∀ c t, 0 ≤ c → (p c t ↔ (TK (μ 400) (μ 402) x pr o c t ∨ OnT (μ 400) (μ 402) o c t))) → B_X11_laysTaken_66 G Q n ξ x pr o := by
        intro p ξ hB2 hξ hpp
        refine b_X11_laysTaken_66 hg (inner o ho (by omega) p (fun ζ hB3 hζ => ih (o + 1) ζ (by omega) (by omega) hB3 (fun c t h0 h2 h3 h4 => ?_)) (it (μ 402) o 9).toNat 0 ξ (by omega) (by omega) hB2 (fun c t h0 h2 h3 h4 => ?_))
        · rw [hζ c t h0 h2 h3 h4]
          dsimp only
          rw [hpp c t h0]
          refine ⟨fun g => ?_, fun ⟨o', g1, g2, g3⟩ => ?_⟩
          · rcases g with (⟨o', g1, g2, g3⟩ | g) | g
            · exact ⟨o', g1, by omega, g3⟩
            · exact ⟨o, ho, by omega, Or.inl g⟩
            · exact ⟨o, ho, by omega, Or.inr g⟩
          · by_cases eo : o' = o
            · subst eo
              rcases g3 with g3 | g3
              · exact Or.inl (Or.inr g3)
              · exact Or.inr g3
            · exact Or.inl (Or.inl ⟨o', g1, by omega, g3⟩)
        · rw [hξ c t h0 h2 h3 h4]
          exact ⟨fun g => Or.inl g, fun g => g.elim id (fun ⟨_, _, j, g3, g4, _⟩ => absurd g3 (by omega))⟩
      refine b_X11_laysTaken_24 hg ⟨fun c => absurd c (by rw [e2]; omega), fun _ => S_isOn hg (by omega) ?_ ?_⟩
      · intro c
        rw [e2] at c
        refine ⟨fun _ => go _ ν hB hν (fun c1 t h0 => ⟨fun g => Or.inl g, fun g => g.elim id (fun g => ?_)⟩), fun c2 => absurd rfl c2⟩
        have := g.1
        omega
      · intro c
        rw [e2] at c
        have hon' := hon.resolve_left c
        have hsi' := hsi c
        have hc := hof (it (μ 402) o 7) hon'.1 hon'.2
        refine ⟨fun c2 => absurd c2 (by decide), fun _ => S_its hg (by omega) (S_its hg (by omega) (S_its hg (by omega) ?_))⟩
        rw [e2]
        refine S_marks hg (by omega) ⟨w1, w2⟩ (by rw [e4]; omega) (by rw [e4]; omega) (fun ξ hB2 hξ => ?_)
        refine go (fun c t => TK (μ 400) (μ 402) x pr o c t ∨ OnT (μ 400) (μ 402) o c t) ξ (hB.tr hB2) (fun c1 t h0 h2 h3 h4 => ?_) (fun _ _ _ => Iff.rfl)
        rw [hξ c1 t h3 h4, e4]
        have hν := hν c1 t h0 h2 h3 h4
        by_cases e6 : c1 = it (μ 402) o 7 ∧ it (μ 402) o 8 ≤ t ∧ t < it (μ 402) o 8 + tkD (μ 400) (it (μ 402) o 0) (it (μ 402) o 7)
        · rw [if_pos e6]
          exact ⟨fun _ => Or.inr ⟨e6.1.symm, e6.2.1, by rw [e6.1]; exact e6.2.2⟩, fun _ => rfl⟩
        · rw [if_neg e6, hν]
          refine ⟨fun g => Or.inl g, fun g => g.elim id (fun ⟨k1, k2, k3⟩ => absurd ⟨k1.symm, k2, by rw [k1]; exact k3⟩ e6)⟩
  -- all ticks are laid free first
  have first : ∀ (d : Nat) (j : Int) (ν : Mem), j + d = 800 → 0 ≤ j → But 411 μ ν → (∀ i, 0 ≤ i → i < j → ν 411 i = 0) → B_X11_laysTaken_2 G Q n ν x pr j := by
    intro d
    induction d with
    | zero =>
      intro j ν e hj hB hν
      refine b_X11_laysTaken_2 hg ⟨fun _ => outer (μ 402 2).toNat 0 ν (by omega) (by omega) hB (fun c t h0 h2 h3 h4 => ?_), fun c => absurd (by omega) c⟩
      rw [hν _ (by omega) (by omega)]
      exact ⟨fun g => absurd g (by decide), fun ⟨o, g1, g2, _⟩ => absurd g1 (by omega)⟩
    | succ d ih =>
      intro j ν e hj hB hν
      refine b_X11_laysTaken_2 hg ⟨fun c => absurd c (by omega), fun _ => ⟨by omega, by omega, ih (j + 1) _ (by omega) (by omega) hB.up (fun i h0 h1 => ?_)⟩⟩
      by_cases ei : i = j
      · subst ei
        exact up_self _ _ _ _
      · rw [up_oth ei]
        exact hν i h0 (by omega)
  exact m_X11_laysTaken hg (first 800 0 μ (by omega) (by omega) But.rf (fun i h0 h1 => by omega))
end Taken
