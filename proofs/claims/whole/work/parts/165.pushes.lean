-- the model: pushing out
section Pushes
variable {G : GT} {n : Nat} {μ : Mem}
theorem S_pushesOut (hg : gx G = FX) {Q : Int → Nat → Mem → Prop} {nd cn b : Int} (hp : PW nd cn (μ 400)) (hs : SR nd cn (μ 400) (μ 402)) (hb : 0 ≤ b ∧ b < μ 402 2)
    (q : ∀ ν, But 402 μ ν → ν 402 = giveAll (μ 402) (poSet (μ 400) (μ 402) b (μ 402 2).toNat) (μ 402 2).toNat → Q (poSet (μ 400) (μ 402) b (μ 402 2).toNat) n ν) : CI G Y_X11_pushesOut [.inr 399, .inl b] n μ Q := by
  have hm8 := hs.2.2.2.1
  have hm0 := hs.2.2.1
  have hbr := hs.2.2.2.2
  have hB := hbr b hb.1 hb.2
  generalize hX : poSet (μ 400) (μ 402) b (μ 402 2).toNat = X at *
  have hXs : st8 X := by rw [← hX]; exact poSet_st _ _ _ (by omega)
  -- the second loop
  have second : ∀ (d : Nat) (o : Nat) (ν : Mem), (o : Int) + d = μ 402 2 → But 402 μ ν → ν 402 = giveAll (μ 402) X o → B_X11_pushesOut_122 G Q n ν X o := by
    intro d
    induction d with
    | zero =>
      intro o ν e hBu hν
      refine b_X11_pushesOut_122 hg ⟨fun _ => q ν hBu ?_, fun c => absurd (by rw [hν, giveAll_lo _ _ _ (by decide)]; omega) c⟩
      rw [hν, show o = (μ 402 2).toNat by omega]
    | succ d ih =>
      intro o ν e hBu hν
      refine b_X11_pushesOut_122 hg ⟨fun c => absurd c (by rw [hν, giveAll_lo _ _ _ (by decide)]; omega), fun _ => S_has hg (fun c => ⟨fun _ => ⟨by omega, ih (o + 1) ν (by omega) hBu ?_⟩, fun c2 => absurd rfl c2⟩) (fun c => ⟨fun c2 => absurd c2 (by decide), fun _ => S_givesUp hg (by omega) ⟨by omega, ih (o + 1) _ (by omega) hBu.up ?_⟩⟩)⟩
      · rw [hν, giveAll, if_neg c]
      · rw [up_row, hν, giveAll, if_pos c]
        rfl
  -- the first
  have first : ∀ (d : Nat) (o : Nat), (o : Int) + d = μ 402 2 → B_X11_pushesOut_4 G Q n μ b (poSet (μ 400) (μ 402) b o) o := by
    intro d
    induction d with
    | zero =>
      intro o e
      refine b_X11_pushesOut_4 hg ⟨fun _ => ?_, fun c => absurd (by omega) c⟩
      rw [show o = (μ 402 2).toNat by omega, hX]
      exact second (μ 402 2).toNat 0 μ (by omega) (fun _ _ => rfl) rfl
    | succ d ih =>
      intro o e
      have hO := hbr o (by omega) (by omega)
      obtain ⟨-, -, -, -, -, -, -, -, -, -, -, -, -, h0, h5, -, -⟩ := id hB
      obtain ⟨-, -, -, -, -, -, -, -, -, -, -, -, -, g0, g5, -, -⟩ := id hO
      have done : ∀ is : Int, (is = 0 ∨ is = 1) → (is = 1 ↔ poP (μ 400) (μ 402) b o) → B_X11_pushesOut_99 G Q n μ b (poSet (μ 400) (μ 402) b o) o is := by
        intro is h01 hiff
        have := ih (o + 1) (by omega)
        rw [poSet] at this
        refine b_X11_pushesOut_99 hg ⟨fun c => ⟨by omega, ?_⟩, fun c => ⟨by omega, ?_⟩⟩
        · rw [if_neg (fun g => by have := hiff.mpr g; omega)] at this
          exact this
        · rw [if_pos (hiff.mp (by omega))] at this
          exact this
      have loopE : ∀ (k : Int), 0 ≤ k → k < it (μ 402) b 9 → it (μ 402) o 3 < it (μ 402) b 3 →
          (∀ is : Int, (is = 0 ∨ is = 1) → (is = 1 ↔ ∃ k', 0 ≤ k' ∧ k' < k + 1 ∧ ∃ e, 0 ≤ e ∧ e < it (μ 402) o 9 ∧ meetP (μ 400) (μ 402) b k' o e) → B_X11_pushesOut_20 G Q n μ b (poSet (μ 400) (μ 402) b o) o is (k + 1)) →
          ∀ (dd : Nat) (f is : Int), f + dd = it (μ 402) o 9 → 0 ≤ f → (is = 0 ∨ is = 1) → (is = 1 ↔ (∃ k', 0 ≤ k' ∧ k' < k ∧ ∃ e, 0 ≤ e ∧ e < it (μ 402) o 9 ∧ meetP (μ 400) (μ 402) b k' o e) ∨ ∃ e, 0 ≤ e ∧ e < f ∧ meetP (μ 400) (μ 402) b k o e) → B_X11_pushesOut_50 G Q n μ b (poSet (μ 400) (μ 402) b o) o is k f := by
        intro k hk0 hk1 hpr hnext dd
        induction dd with
        | zero =>
          intro f is e1 hf h01 hiff
          refine b_X11_pushesOut_50 hg (S_its hg (by omega) ⟨fun _ => ⟨by omega, hnext is h01 ?_⟩, fun c => absurd (by omega) c⟩)
          rw [hiff]
          constructor
          · rintro (⟨k', a1, a2, a3⟩ | ⟨e, a1, a2, a3⟩)
            · exact ⟨k', a1, by omega, a3⟩
            · exact ⟨k, hk0, by omega, e, a1, by omega, a3⟩
          · rintro ⟨k', a1, a2, e, a3, a4, a5⟩
            by_cases ek : k' = k
            · subst ek
              exact Or.inr ⟨e, a3, by omega, a5⟩
            · exact Or.inl ⟨k', a1, by omega, e, a3, a4, a5⟩
        | succ dd ihe =>
          intro f is e1 hf h01 hiff
          have yes : ∀ P : Prop, P → ((1 : Int) = 1 ↔ P) := fun P h => ⟨fun _ => h, fun _ => rfl⟩
          refine b_X11_pushesOut_50 hg (S_its hg (by omega) ⟨fun c => absurd c (by omega), fun _ => ⟨fun c => ?_, fun c => S_meets hg hp (by omega) (by omega) hB hO ⟨hk0, hk1⟩ ⟨hf, by omega⟩ (fun g => ⟨fun _ => ⟨by omega, ?_⟩, fun g2 => absurd rfl g2⟩) (fun g => ⟨fun g2 => absurd g2 (by decide), fun _ => ?_⟩)⟩⟩)
          · refine b_X11_pushesOut_80 hg ⟨by omega, ihe (f + 1) 1 (by omega) (by omega) (Or.inr rfl) (yes _ ?_)⟩
            rcases hiff.mp (by omega) with a | ⟨e, a1, a2, a3⟩
            · exact Or.inl a
            · exact Or.inr ⟨e, a1, by omega, a3⟩
          · refine ihe (f + 1) 0 (by omega) (by omega) (Or.inl rfl) ⟨fun a => absurd a (by decide), ?_⟩
            rintro (a | ⟨e, a1, a2, a3⟩)
            · have := hiff.mpr (Or.inl a)
              omega
            · by_cases ef : e = f
              · subst ef
                exact absurd a3 g
              · have := hiff.mpr (Or.inr ⟨e, a1, by omega, a3⟩)
                omega
          · refine b_X11_pushesOut_80 hg ⟨by omega, ihe (f + 1) 1 (by omega) (by omega) (Or.inr rfl) (yes _ (Or.inr ⟨f, hf, by omega, g⟩))⟩
      have loopK : ∀ (dd : Nat) (k is : Int), k + dd = it (μ 402) b 9 → 0 ≤ k → (is = 0 ∨ is = 1) → (it (μ 402) o 3 < it (μ 402) b 3 → (is = 1 ↔ ∃ k', 0 ≤ k' ∧ k' < k ∧ ∃ e, 0 ≤ e ∧ e < it (μ 402) o 9 ∧ meetP (μ 400) (μ 402) b k' o e)) → (¬ it (μ 402) o 3 < it (μ 402) b 3 → is = 0) → B_X11_pushesOut_20 G Q n μ b (poSet (μ 400) (μ 402) b o) o is k := by
        intro dd
        induction dd with
        | zero =>
          intro k is e1 hk0 h01 h1 h2
          refine b_X11_pushesOut_20 hg (S_its hg (by omega) ⟨fun _ => done is h01 ?_, fun c => absurd (by omega) c⟩)
          by_cases hpr : it (μ 402) o 3 < it (μ 402) b 3
          · rw [h1 hpr]
            exact ⟨fun ⟨k', a1, a2, a3⟩ => ⟨k', a1, by omega, hpr, a3⟩, fun ⟨k', a1, a2, _, a3⟩ => ⟨k', a1, by omega, a3⟩⟩
          · have := h2 hpr
            exact ⟨fun a => by omega, fun ⟨_, _, _, a, _⟩ => absurd a hpr⟩
        | succ dd ihk =>
          intro k is e1 hk0 h01 h1 h2
          refine b_X11_pushesOut_20 hg (S_its hg (by omega) ⟨fun c => absurd c (by omega), fun _ => S_its hg (by omega) (S_its hg (by omega) ⟨fun c => done is h01 ?_, fun c => ?_⟩)⟩)
          · have := h2 (by omega)
            exact ⟨fun a => by omega, fun ⟨_, _, _, a, _⟩ => absurd a (by omega)⟩
          · refine loopE k hk0 (by omega) (by omega) (fun is2 a1 a2 => ihk (k + 1) is2 (by omega) (by omega) a1 (fun _ => a2) (fun a => absurd (by omega) a)) (it (μ 402) o 9).toNat 0 is (by omega) (by omega) h01 ?_
            rw [h1 (by omega)]
            exact ⟨fun a => Or.inl a, fun a => a.elim id (fun ⟨e, b1, b2, _⟩ => absurd b1 (by omega))⟩
      refine b_X11_pushesOut_4 hg ⟨fun c => absurd c (by omega), fun _ => loopK (it (μ 402) b 9).toNat 0 0 (by omega) (by omega) (Or.inl rfl) (fun _ => ⟨fun a => absurd a (by decide), fun ⟨k', a1, a2, _⟩ => absurd a1 (by omega)⟩) (fun _ => rfl)⟩
  exact m_X11_pushesOut hg (first (μ 402 2).toNat 0 (by omega))
end Pushes
