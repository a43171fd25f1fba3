-- the model: when a hop may begin, and when it is there
/-- a tick that is free within the window -/
def FR (of s : Int → Int) (tk : Int → Int → Prop) (c t : Int) : Prop := cf of c 2 ≤ t ∧ s 0 ≤ t ∧ t < cf of c 3 ∧ ¬ tk c t
def OKt (of s : Int → Int) (tk : Int → Int → Prop) (c need t : Int) : Prop := ∀ i, t ≤ i → i < t + need → FR of s tk c i
noncomputable def fbP (of s : Int → Int) (tk : Int → Int → Prop) (c need w : Int) : Option Int := firstP (OKt of s tk c need) w (99 - w).toNat
noncomputable def endE (of s : Int → Int) (tk : Int → Int → Prop) (w c t : Int) : Int := match fbP of s tk c (tkD of w c) t with
  | some r => r + tkD of w c + cf of c 5
  | none => 9999
section Begins
variable {G : GT} {n : Nat} {μ : Mem}
theorem fbP_in {of s : Int → Int} {tk : Int → Int → Prop} {c need w r : Int} (h : fbP of s tk c need w = some r) (hn : 1 ≤ need) : w ≤ r ∧ s 0 ≤ r ∧ cf of c 2 ≤ r ∧ r + need ≤ cf of c 3 ∧ OKt of s tk c need r := by
  obtain ⟨h1, h2, h3, h4⟩ := firstP_some h
  have h5 := h3 r (by omega) (by omega)
  have h6 := h3 (r + need - 1) (by omega) (by omega)
  exact ⟨h1, h5.2.1, h5.1, by have := h6.2.2.1; omega, h3⟩
theorem S_beginsAt (hg : gx G = FX) {Q : Int → Nat → Mem → Prop} {nd cn w c t : Int} {tk : Int → Int → Prop} (hp : PW nd cn (μ 400)) (hc : 0 ≤ c ∧ c < cn) (hw : 1 ≤ w ∧ w ≤ 20) (hs : 0 ≤ μ 402 0 ∧ μ 402 0 ≤ 99) (ht : -1000 ≤ t ∧ t ≤ 100000) (hk : Mk μ tk)
    (q : Q ((fbP (μ 400) (μ 402) tk c (tkD (μ 400) w c) t).getD 9999) n μ) : CI G Y_X11_beginsAt [.inr 399, .inl w, .inl c, .inl t] n μ Q := by
  have hof := hp.2.2.2.2 c hc.1 hc.2
  have hc8 := hp.2.2.2.1
  have hd := tkD_le hw.1 hw.2 hof.2.2.2.2.2.2.2.2.2.1 hof.2.2.2.2.2.2.2.2.2.2.1
  have e2 : μ 400 (6 * c + 2) = cf (μ 400) c 2 := rfl
  have e3 : μ 400 (6 * c + 3) = cf (μ 400) c 3 := rfl
  generalize hneed : tkD (μ 400) w c = need at *
  have loop : ∀ (d : Nat) (u run : Int), u + d = 100000 + 100 → cf (μ 400) c 2 ≤ u → μ 402 0 ≤ u → t ≤ u - run → 0 ≤ run → run < need → (∀ i, u - run ≤ i → i < u → FR (μ 400) (μ 402) tk c i) → (∀ r, t ≤ r → r < u - run → ¬ OKt (μ 400) (μ 402) tk c need r) → B_X11_beginsAt_67 G Q n μ c need u run := by
    intro d
    induction d with
    | zero =>
      intro u run e h1 h2 h3 h4 h5 h6 h7
      have h6' := fun (x : Int) (a : u - run ≤ x) (b : x < u) => (h6 x a b).2.2.1
      refine b_X11_beginsAt_67 hg ⟨by omega, by omega, by omega, fun _ => ?_, fun c' => absurd (by omega) c'⟩
      rw [show fbP (μ 400) (μ 402) tk c need t = none from firstP_isnone (fun r g1 g2 g3 => ?_)] at q
      · exact q
      · by_cases g4 : r < u - run
        · exact h7 r g1 g4 g3
        · have := (g3 (r + need - 1) (by omega) (by omega)).2.2.1
          omega
    | succ d ih =>
      intro u run e h1 h2 h3 h4 h5 h6 h7
      refine b_X11_beginsAt_67 hg ⟨by omega, by omega, by omega, fun c1 => ?_, fun c1 => ⟨by omega, by omega, by omega, fun hz => ⟨fun c2 => ⟨by omega, ?_⟩, fun c2 => ?_⟩⟩⟩
      · rw [show fbP (μ 400) (μ 402) tk c need t = none from firstP_isnone (fun r g1 g2 g3 => ?_)] at q
        · exact q
        · by_cases g4 : r < u - run
          · exact h7 r g1 g4 g3
          · have := (g3 (r + need - 1) (by omega) (by omega)).2.2.1
            omega
      · -- free: one more
        have hfr : FR (μ 400) (μ 402) tk c u := ⟨h1, h2, by omega, fun g => by
          have := (hk c u hc.1 (by omega) (by omega) (by omega)).mpr g
          omega⟩
        have h6' : ∀ i, u - run ≤ i → i < u + 1 → FR (μ 400) (μ 402) tk c i := fun i g1 g2 => by
          by_cases g3 : i = u
          · rw [g3]; exact hfr
          · exact h6 i g1 (by omega)
        refine b_X11_beginsAt_106 hg ⟨fun c3 => ⟨by omega, ih (u + 1) (run + 1) (by omega) (by omega) (by omega) (by omega) (by omega) (by omega) (fun i g1 g2 => h6' i (by omega) g2) (fun r g1 g2 => h7 r g1 (by omega))⟩, fun c3 => ⟨by omega, by omega, ?_⟩⟩
        rw [show fbP (μ 400) (μ 402) tk c need t = some (u + 1 - need) from firstP_is (by omega) (by omega) (fun i g1 g2 => h6' i (by omega) (by omega)) (fun r g1 g2 => h7 r g1 (by omega))] at q
        exact q
      · -- taken: from anew
        have ht1 : tk c u := (hk c u hc.1 (by omega) (by omega) (by omega)).mp (by omega)
        refine b_X11_beginsAt_106 hg ⟨fun c3 => ⟨by omega, ih (u + 1) 0 (by omega) (by omega) (by omega) (by omega) (by omega) (by omega) (fun i g1 g2 => by omega) (fun r g1 g2 g3 => ?_)⟩, fun c3 => by omega⟩
        by_cases g4 : r < u - run
        · exact h7 r g1 g4 g3
        · exact (g3 u (by omega) (by omega)).2.2.2 ht1
  have go : ∀ u, t ≤ u → cf (μ 400) c 2 ≤ u → μ 402 0 ≤ u → (u = t ∨ u = cf (μ 400) c 2 ∨ u = μ 402 0) → B_X11_beginsAt_67 G Q n μ c need u 0 := by
    intro u h1 h2 h3 h4
    refine loop (100000 + 100 - u).toNat u 0 (by omega) h2 h3 (by omega) (by omega) (by omega) (fun i g1 g2 => by omega) (fun r g1 g2 g3 => ?_)
    have h5 := g3 r (by omega) (by omega)
    have h6 := h5.1
    have h7 := h5.2.1
    omega
  refine m_X11_beginsAt hg (S_ticks hg (by omega) hw (by omega) ?_)
  rw [hneed]
  refine ⟨by omega, by omega, by omega, fun c1 => ⟨by omega, by omega, by omega, b_X11_beginsAt_38 hg ⟨fun c2 => ?_, fun c2 => ?_⟩⟩, fun c1 => b_X11_beginsAt_38 hg ⟨fun c2 => ?_, fun c2 => ?_⟩⟩
  · exact b_X11_beginsAt_62 hg (go _ (by omega) (by omega) (by omega) (by omega))
  · exact b_X11_beginsAt_62 hg (go _ (by omega) (by omega) (by omega) (by omega))
  · exact b_X11_beginsAt_62 hg (go _ (by omega) (by omega) (by omega) (by omega))
  · exact b_X11_beginsAt_62 hg (go _ (by omega) (by omega) (by omega) (by omega))
theorem S_endsAt (hg : gx G = FX) {Q : Int → Nat → Mem → Prop} {nd cn w c t : Int} {tk : Int → Int → Prop} (hp : PW nd cn (μ 400)) (hc : 0 ≤ c ∧ c < cn) (hw : 1 ≤ w ∧ w ≤ 20) (hs : 0 ≤ μ 402 0 ∧ μ 402 0 ≤ 99) (ht : -1000 ≤ t ∧ t ≤ 100000) (hk : Mk μ tk)
    (q : Q (endE (μ 400) (μ 402) tk w c t) n μ) : CI G Y_X11_endsAt [.inr 399, .inl w, .inl c, .inl t] n μ Q := by
  have hof := hp.2.2.2.2 c hc.1 hc.2
  have hc8 := hp.2.2.2.1
  have hd := tkD_le hw.1 hw.2 hof.2.2.2.2.2.2.2.2.2.1 hof.2.2.2.2.2.2.2.2.2.2.1
  have e5 : μ 400 (6 * c + 5) = cf (μ 400) c 5 := rfl
  unfold endE at q
  refine m_X11_endsAt hg (S_beginsAt hg hp hc hw hs ht hk ?_)
  cases hf : fbP (μ 400) (μ 402) tk c (tkD (μ 400) w c) t with
  | none =>
    rw [hf] at q
    exact ⟨fun c1 => absurd rfl c1, fun _ => q⟩
  | some r =>
    rw [hf] at q
    have h1 := fbP_in hf (by omega)
    refine ⟨fun _ => S_ticks hg (by omega) hw (by omega) ⟨?_, by omega, by omega, by omega, ?_, q⟩, fun c1 => ?_⟩
    · show inR (r + _)
      omega
    · show inR (r + _ + _)
      omega
    · have c1 : r = 9999 := c1
      omega
end Begins
