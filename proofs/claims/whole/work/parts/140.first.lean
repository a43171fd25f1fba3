-- the model: first arrivals laid out; whether there is a way; the way
noncomputable def EE (cn : Int) (of s : Int → Int) (tk : Int → Int → Prop) (w out : Int) : Int → Int → Int := fun c t =>
  @ite _ (c = out ∨ msB (s 1) c ∨ ¬ (0 ≤ c ∧ c < cn)) (Classical.propDecidable _) 9999 (endE of s tk w c t)
def Fc (of : Int → Int) : Int → Int := fun c => cf of c 0
def Tc (of : Int → Int) : Int → Int := fun c => cf of c 1
theorem endE_lt {nd cn w c t : Int} {of s : Int → Int} {tk : Int → Int → Prop} (hp : PW nd cn of) (hc : 0 ≤ c ∧ c < cn) (hw : 1 ≤ w ∧ w ≤ 20) : endE of s tk w c t = 9999 ∨ (t < endE of s tk w c t ∧ endE of s tk w c t ≤ 108) := by
  have hof := hp.2.2.2.2 c hc.1 hc.2
  have hd := tkD_le hw.1 hw.2 hof.2.2.2.2.2.2.2.2.2.1 hof.2.2.2.2.2.2.2.2.2.2.1
  unfold endE
  cases hf : fbP of s tk c (tkD of w c) t with
  | none => exact Or.inl rfl
  | some r =>
    have h1 := fbP_in hf (by omega)
    right
    show t < r + _ + _ ∧ r + _ + _ ≤ 108
    omega
theorem EE_lt {nd cn w out c t : Int} {of s : Int → Int} {tk : Int → Int → Prop} (hp : PW nd cn of) (hw : 1 ≤ w ∧ w ≤ 20) : EE cn of s tk w out c t = 9999 ∨ (t < EE cn of s tk w out c t ∧ EE cn of s tk w out c t ≤ 108) := by
  unfold EE
  by_cases h : c = out ∨ msB (s 1) c ∨ ¬ (0 ≤ c ∧ c < cn)
  · rw [if_pos h]
    exact Or.inl rfl
  · rw [if_neg h]
    by_cases h2 : 0 ≤ c ∧ c < cn
    · exact endE_lt hp h2 hw
    · exact absurd (Or.inr (Or.inr h2)) h
theorem EE_up {nd cn w out : Int} {of s : Int → Int} {tk : Int → Int → Prop} (hp : PW nd cn of) (hw : 1 ≤ w ∧ w ≤ 20) : upE (EE cn of s tk w out) := by
  intro c t h
  have := EE_lt (c := c) (t := t) (out := out) (s := s) (tk := tk) hp hw
  omega
theorem EE_mono {nd cn w out : Int} {of s : Int → Int} {tk : Int → Int → Prop} (hp : PW nd cn of) (hw : 1 ≤ w ∧ w ≤ 20) : monoE (EE cn of s tk w out) := by
  intro c t t' h
  have h1 := EE_lt (c := c) (t := t) (out := out) (s := s) (tk := tk) hp hw
  have h2 := EE_lt (c := c) (t := t') (out := out) (s := s) (tk := tk) hp hw
  by_cases e : EE cn of s tk w out c t' = 9999
  · omega
  · have h3 : EE cn of s tk w out c t' < 9999 := by omega
    unfold EE at e h3 ⊢
    by_cases hg : c = out ∨ msB (s 1) c ∨ ¬ (0 ≤ c ∧ c < cn)
    · rw [if_pos hg] at e
      exact absurd rfl e
    · rw [if_neg hg] at e h3 ⊢
      rw [if_neg hg]
      unfold endE at e h3 ⊢
      cases hf : fbP of s tk c (tkD of w c) t' with
      | none => rw [hf] at e; exact absurd rfl e
      | some r =>
        obtain ⟨g1, g2, g3, g4⟩ := firstP_some hf
        cases hf' : fbP of s tk c (tkD of w c) t with
        | none => exact absurd g3 (firstP_none hf' r (by omega) (by omega))
        | some r' =>
          obtain ⟨k1, k2, k3, k4⟩ := firstP_some hf'
          have : r' ≤ r := by
            by_cases q : r' ≤ r
            · exact q
            · exact absurd g3 (k4 r (by omega) (by omega))
          show r' + _ + _ ≤ r + _ + _
          omega
theorem dpC_skip {F T : Int → Int} {E : Int → Int → Int} {d : Int → Int} {c : Nat} {u : Int} (hd : d u ≤ 9999) (h : E c (d (F c)) = 9999 ∨ ¬ d (F c) < 9999) : dpC F T E d (c + 1) u = dpC F T E d c u := by
  rw [dpC, if_neg]
  rintro ⟨h1, h2, h3⟩
  have := dpC_le (F := F) (T := T) (E := E) d c u
  omega
theorem dpP_le9 {cn v t : Int} {F T : Int → Int} {E : Int → Int → Int} (ht : t ≤ 9999) (j : Nat) (u : Int) : dpP cn F T E v t j u ≤ 9999 := by
  refine Int.le_trans (dpP_mono (Nat.zero_le j)) ?_
  show (if u = v then t else 9999) ≤ 9999
  split <;> omega
section First
variable {G : GT} {n : Nat} {μ : Mem}
theorem S_laysFirst (hg : gx G = FX) {Q : Nat → Mem → Prop} {nd w node t most out : Int} {tk : Int → Int → Prop} (hp : PW nd (μ 399 2) (μ 400)) (hw : 1 ≤ w ∧ w ≤ 20) (hs : 0 ≤ μ 402 0 ∧ μ 402 0 ≤ 99) (ht : 0 ≤ t ∧ t ≤ 9998) (hm : 0 ≤ most ∧ most ≤ 5) (hk : Mk μ tk)
    (q : ∀ ν, But 412 μ ν → (∀ (j : Nat) (u : Int), (j : Int) ≤ most → 0 ≤ u → u < 6 → ν 412 (6 * j + u) = dpP (μ 399 2) (Fc (μ 400)) (Tc (μ 400)) (EE (μ 399 2) (μ 400) (μ 402) tk w out) node t j u) → Q n ν) : CV G Y_X11_laysFirst [.inr 399, .inl w, .inl node, .inl t, .inl most, .inl out] n μ Q := by
  have hc0 := hp.2.2.1
  have hc8 := hp.2.2.2.1
  have hn6 := hp.2.1
  have hof := hp.2.2.2.2
  generalize hcn : μ 399 2 = cn at *
  generalize hE : EE cn (μ 400) (μ 402) tk w out = E at *
  have hd9 : ∀ (j : Nat) (u : Int), dpP cn (Fc (μ 400)) (Tc (μ 400)) E node t j u ≤ 9999 := dpP_le9 (by omega)
  -- the rows up to j stand
  have rows : ∀ (d : Nat) (j : Nat) (ν : Mem), (j : Int) + d = 6 → But 412 μ ν → (∀ (i : Nat) (u : Int), i ≤ j → 0 ≤ u → u < 6 → ν 412 (6 * i + u) = dpP cn (Fc (μ 400)) (Tc (μ 400)) E node t i u) → B_X11_laysFirst_39 G Q n ν w most out (j + 1) := by
    intro d
    induction d with
    | zero =>
      intro j ν e hB hν
      exact b_X11_laysFirst_39 hg ⟨fun _ => q ν hB (fun i u h0 h1 h2 => hν i u (by omega) h1 h2), fun c => absurd (by omega) c⟩
    | succ d ih =>
      intro j ν e hB hν
      by_cases hj : most < (j : Int) + 1
      · exact b_X11_laysFirst_39 hg ⟨fun _ => q ν hB (fun i u h0 h1 h2 => hν i u (by omega) h1 h2), fun c => absurd hj c⟩
      have relax : ∀ (dd : Nat) (c : Nat) (ξ : Mem), (c : Int) + dd = cn → But 412 μ ξ → (∀ (i : Nat) (u : Int), i ≤ j → 0 ≤ u → u < 6 → ξ 412 (6 * i + u) = dpP cn (Fc (μ 400)) (Tc (μ 400)) E node t i u) →
          (∀ u : Int, 0 ≤ u → u < 6 → ξ 412 (6 * ((j : Int) + 1) + u) = dpC (Fc (μ 400)) (Tc (μ 400)) E (dpP cn (Fc (μ 400)) (Tc (μ 400)) E node t j) c u) → B_X11_laysFirst_94 G Q n ξ w most out ((j : Int) + 1) c := by
        intro dd
        induction dd with
        | zero =>
          intro c ξ e1 hB1 h1 h2
          have e3 : ξ 399 2 = cn := by rw [hB1 399 (by decide)]; exact hcn
          refine b_X11_laysFirst_94 hg ⟨fun _ => ⟨by omega, ?_⟩, fun c' => absurd (by omega) c'⟩
          refine ih (j + 1) ξ (by omega) hB1 (fun i u g1 g2 g3 => ?_)
          by_cases ei : i = j + 1
          · subst ei
            have := h2 u g2 g3
            rw [show c = cn.toNat by omega] at this
            exact this
          · exact h1 i u (by omega) g2 g3
        | succ dd ihc =>
          intro c ξ e1 hB1 h1 h2
          have e3 : ξ 399 2 = cn := by rw [hB1 399 (by decide)]; exact hcn
          have e4 : ξ 400 = μ 400 := hB1 400 (by decide)
          have e2 : ξ 402 = μ 402 := hB1 402 (by decide)
          have hc := hof c (by omega) (by omega)
          have eF : μ 400 (6 * (c : Int)) = Fc (μ 400) c := by unfold Fc cf; rw [Int.add_zero]
          have eT : μ 400 (6 * (c : Int) + 1) = Tc (μ 400) c := rfl
          have hF : 0 ≤ Fc (μ 400) c ∧ Fc (μ 400) c < 6 := ⟨hc.1, by have := hc.2.1; unfold Fc; omega⟩
          have hT : 0 ≤ Tc (μ 400) c ∧ Tc (μ 400) c < 6 := ⟨hc.2.2.1, by have := hc.2.2.2.1; unfold Tc; omega⟩
          have efrom : ξ 412 (6 * ((j : Int) + 1) - 6 + Fc (μ 400) c) = dpP cn (Fc (μ 400)) (Tc (μ 400)) E node t j (Fc (μ 400) c) := by
            rw [show 6 * ((j : Int) + 1) - 6 + Fc (μ 400) c = 6 * j + Fc (μ 400) c by omega]
            exact h1 j _ (Nat.le_refl j) hF.1 hF.2
          have skip : (E c (dpP cn (Fc (μ 400)) (Tc (μ 400)) E node t j (Fc (μ 400) c)) = 9999 ∨ ¬ dpP cn (Fc (μ 400)) (Tc (μ 400)) E node t j (Fc (μ 400) c) < 9999) → B_X11_laysFirst_94 G Q n ξ w most out ((j : Int) + 1) ((c : Int) + 1) := fun hsk =>
            ihc (c + 1) ξ (by omega) hB1 h1 (fun u g1 g2 => by rw [h2 u g1 g2, dpC_skip (hd9 j u) hsk])
          refine b_X11_laysFirst_94 hg ⟨fun c' => absurd c' (by omega), fun _ => ?_⟩
          rw [e4, eF, efrom]
          refine ⟨by omega, by omega, by omega, by omega, by omega, by omega, fun c1 => ⟨by omega, skip (Or.inl ?_)⟩, fun c1 => S_isMissed hg (fun c2 => ⟨fun g => absurd rfl g, fun _ => ⟨fun c3 => ⟨by omega, skip (Or.inr (by omega))⟩, fun c3 => ?_⟩⟩) (fun c2 => ⟨fun _ => ⟨by omega, skip (Or.inl ?_)⟩, fun g => absurd g (by decide)⟩)⟩
          · rw [← hE]
            exact if_pos (Or.inl c1)
          · -- a contact that is used
            rw [e2] at c2
            have hEc : ∀ x, E c x = endE (μ 400) (μ 402) tk w c x := fun x => by
              rw [← hE]
              refine if_neg ?_
              rintro (g | g | g)
              · exact c1 g
              · exact c2 g
              · exact g ⟨by omega, by omega⟩
            have hd0 : ∀ (i : Nat) (u : Int), 0 ≤ dpP cn (Fc (μ 400)) (Tc (μ 400)) E node t i u ∨ True := fun _ _ => Or.inr trivial
            have hfr : -1000 ≤ dpP cn (Fc (μ 400)) (Tc (μ 400)) E node t j (Fc (μ 400) c) := by
              obtain ⟨l, -, hl⟩ := dpP_is (cn := cn) (F := Fc (μ 400)) (T := Tc (μ 400)) (E := E) j (v := node) (t := t) (g := Fc (μ 400) c) (by omega)
              have := WK_le (by rw [← hE]; exact EE_up hp hw) hl
              omega
            refine S_endsAt hg (nd := nd) (cn := cn) (by rw [e4]; exact hp) ⟨by omega, by omega⟩ hw (by rw [e2]; exact hs) (by omega) (tk := tk) (fun c t h0 h1 h2 h3 => by rw [hB1 411 (by decide)]; exact hk c t h0 h1 h2 h3) ?_
            rw [e4, e2, ← hEc, eT]
            have eto := h2 (Tc (μ 400) c) hT.1 hT.2
            refine ⟨by omega, by omega, by omega, by omega, by omega, by omega, fun c4 => ⟨by omega, by omega, by omega, ?_⟩, fun c4 => ⟨by omega, by omega, ?_⟩⟩
            · refine ihc (c + 1) _ (by omega) hB1.up (fun i u g1 g2 g3 => ?_) (fun u g1 g2 => ?_)
              · rw [up_oth (by omega)]
                exact h1 i u g1 g2 g3
              · by_cases eu : u = Tc (μ 400) c
                · subst eu
                  rw [up_self, eto, dpC, if_neg (by omega)]
                · rw [up_oth (by omega), h2 u g1 g2, dpC, if_neg (fun g => eu g.1.symm)]
            · refine ihc (c + 1) _ (by omega) hB1.up (fun i u g1 g2 g3 => ?_) (fun u g1 g2 => ?_)
              · rw [up_oth (by omega)]
                exact h1 i u g1 g2 g3
              · by_cases eu : u = Tc (μ 400) c
                · subst eu
                  rw [up_self, dpC, if_pos ⟨rfl, by omega, by omega⟩]
                · rw [up_oth (by omega), h2 u g1 g2, dpC, if_neg (fun g => eu g.1.symm)]
          · rw [e2] at c2
            rw [← hE]
            exact if_pos (Or.inr (Or.inl c2))
      have copy : ∀ (dd : Nat) (v : Int) (ξ : Mem), v + dd = 6 → 0 ≤ v → But 412 μ ξ → (∀ (i : Nat) (u : Int), i ≤ j → 0 ≤ u → u < 6 → ξ 412 (6 * i + u) = dpP cn (Fc (μ 400)) (Tc (μ 400)) E node t i u) →
          (∀ u : Int, 0 ≤ u → u < v → ξ 412 (6 * ((j : Int) + 1) + u) = dpP cn (Fc (μ 400)) (Tc (μ 400)) E node t j u) → B_X11_laysFirst_49 G Q n ξ w most out ((j : Int) + 1) v := by
        intro dd
        induction dd with
        | zero =>
          intro v ξ e1 hv hB1 h1 h2
          refine b_X11_laysFirst_49 hg ⟨fun _ => relax cn.toNat 0 ξ (by omega) hB1 h1 (fun u g1 g2 => h2 u g1 (by omega)), fun c => absurd (by omega) c⟩
        | succ dd ihv =>
          intro v ξ e1 hv hB1 h1 h2
          refine b_X11_laysFirst_49 hg ⟨fun c => absurd c (by omega), fun _ => ⟨by omega, by omega, by omega, by omega, by omega, by omega, by omega, by omega, ihv (v + 1) _ (by omega) (by omega) hB1.up (fun i u g1 g2 g3 => ?_) (fun u g1 g2 => ?_)⟩⟩
          · rw [up_oth (by omega)]
            exact h1 i u g1 g2 g3
          · by_cases eu : u = v
            · subst eu
              rw [up_self, show 6 * ((j : Int) + 1) - 6 + u = 6 * j + u by omega]
              exact h1 j u (Nat.le_refl j) (by omega) (by omega)
            · rw [up_oth (by omega)]
              exact h2 u g1 (by omega)
      refine b_X11_laysFirst_39 hg ⟨fun _ => q ν hB (fun i u h0 h1 h2 => hν i u (by omega) h1 h2), fun c1 => copy 6 0 ν (by omega) (by omega) hB hν (fun u g1 g2 => by omega)⟩
  have row0 : ∀ (d : Nat) (v : Int) (ν : Mem), v + d = 6 → 0 ≤ v → But 412 μ ν → (∀ u : Int, 0 ≤ u → u < v → ν 412 u = if u = node then t else 9999) → B_X11_laysFirst_3 G Q n ν w node t most out v := by
    intro d
    induction d with
    | zero =>
      intro v ν e hv hB hν
      refine b_X11_laysFirst_3 hg ⟨fun _ => rows 6 0 ν (by omega) hB (fun i u g1 g2 g3 => ?_), fun c => absurd (by omega) c⟩
      have : i = 0 := by omega
      subst this
      rw [show 6 * ((0 : Nat) : Int) + u = u by omega]
      exact hν u g2 (by omega)
    | succ d ih =>
      intro v ν e hv hB hν
      refine b_X11_laysFirst_3 hg ⟨fun c => absurd c (by omega), fun _ => ⟨fun c => ⟨by omega, by omega, ih (v + 1) _ (by omega) (by omega) hB.up (fun u g1 g2 => ?_)⟩, fun c => ⟨by omega, by omega, ih (v + 1) _ (by omega) (by omega) hB.up (fun u g1 g2 => ?_)⟩⟩⟩
      · by_cases eu : u = v
        · subst eu
          rw [up_self, if_neg c]
        · rw [up_oth eu]
          exact hν u g1 (by omega)
      · by_cases eu : u = v
        · subst eu
          rw [up_self, if_pos c]
        · rw [up_oth eu]
          exact hν u g1 (by omega)
  exact m_X11_laysFirst hg (row0 6 0 μ (by omega) (by omega) But.rf (fun u g1 g2 => by omega))
end First
