-- the model: one bundle planned, whole
theorem LexL_ex {cn g A : Int} {F T : Int → Int} {E : Int → Int → Int} (hm : monoE E) (hA : A < 9999) : ∀ (r : Nat) {v t : Int}, HH cn F T E g A r v t → ∃ l, LexL cn F T E g A r v t l := by
  intro r
  induction r with
  | zero =>
    intro v t h
    obtain ⟨l, h1, h2⟩ := h.1
    have e0 : l = [] := List.length_eq_zero_iff.mp (by omega)
    subst e0
    exact ⟨[], rfl, h2, fun _ _ _ => trivial⟩
  | succ r ih =>
    intro v t h
    obtain ⟨c0, hc0⟩ := HH_good hm h
    obtain ⟨c, h1, h2, h3, h4⟩ := good_least (P := good cn F T E g A r v t) hc0.1 hc0
    obtain ⟨l, hl⟩ := ih (HH_next h hA h3)
    exact ⟨c :: l, LexL_cons hm h h3 (fun d hd hg => h4 d hg.1 hd hg) hl⟩
theorem dp_least {cn v t g A : Int} {F T : Int → Int} {E : Int → Int → Int} (hA : A = dpP cn F T E v t 5 g) : ∃ M : Nat, M ≤ 5 ∧ dpP cn F T E v t M g = A ∧ ∀ i : Nat, i < M → ¬ dpP cn F T E v t i g = A := by
  obtain ⟨d, h1, h2, h3, h4⟩ := good_least (P := fun x => dpP cn F T E v t x.toNat g = A) (c := 5) (by decide) hA.symm
  exact ⟨d.toNat, by omega, h3, fun i hi => h4 i (by omega) (by omega)⟩
theorem BestW_ex {cn v t g : Int} {F T : Int → Int} {E : Int → Int → Int} (hm : monoE E) (ht : t < 9999) (hA : dpP cn F T E v t 5 g < 9999) : BestW cn F T E v t g (wayL cn F T E v t g) (dpP cn F T E v t 5 g) := by
  obtain ⟨M, h1, h2, h3⟩ := dp_least (cn := cn) (F := F) (T := T) (E := E) (v := v) (t := t) (g := g) rfl
  obtain ⟨l, hl⟩ := LexL_ex hm hA M (HH_of hm ht rfl hA h1 h2 h3)
  have := best_of hm ht rfl h1 hl h3
  rw [wayL_is this]
  exact this
theorem nodeP_in {nd cn b : Int} {of s : Int → Int} (hp : PW nd cn of) (hb : BR nd cn of s b) : 0 ≤ nodeP of s b ∧ nodeP of s b < nd := by
  obtain ⟨-, -, -, -, -, -, -, -, a9, a10, -, -, a13, -⟩ := hb
  unfold nodeP
  by_cases h : it s b 7 = -9
  · rw [if_pos h]; exact ⟨a9, a10⟩
  · rw [if_neg h]
    have h1 := a13.resolve_left h
    have := hp.2.2.2.2 _ h1.1 h1.2
    exact ⟨this.2.2.1, this.2.2.2.1⟩
theorem whenP_in {nd cn b : Int} {of s : Int → Int} (hp : PW nd cn of) (h0 : 0 ≤ s 0 ∧ s 0 ≤ 99) (hb : BR nd cn of s b) : 0 ≤ whenP of s b ∧ whenP of s b ≤ 108 := by
  obtain ⟨a1, a2, -, -, -, -, -, -, -, -, -, -, a13, -, -, -, a17⟩ := hb
  unfold whenP
  by_cases h : it s b 7 = -9
  · rw [if_pos h]; omega
  · rw [if_neg h]
    have h1 := a13.resolve_left h
    have hc := hp.2.2.2.2 _ h1.1 h1.2
    have h2 := a17 h
    have hd := tkD_le a1 a2 hc.2.2.2.2.2.2.2.2.2.1 hc.2.2.2.2.2.2.2.2.2.2.1
    unfold arrT
    omega
/-- what the best way is, where there is one -/
theorem best_ex {nd cn b : Int} {of s : Int → Int} (hp : PW nd cn of) (hs : SR nd cn of s) (hb : 0 ≤ b ∧ b < s 2) (hA : bestA cn of s b < 9999) :
    BestW cn (Fc of) (Tc of) (ES cn of s b) (nodeP of s b) (whenP of s b) (it s b 1) (bestL cn of s b) (bestA cn of s b) ∧ (bestL cn of s b).length ≤ 5 ∧ (bestB cn of s b).length = (bestL cn of s b).length ∧
    ∀ k : Nat, k < (bestL cn of s b).length → 0 ≤ (bestL cn of s b).getD k 0 ∧ (bestL cn of s b).getD k 0 < cn ∧ s 0 ≤ (bestB cn of s b).getD k 0 ∧ (bestB cn of s b).getD k 0 + tkD of (it s b 0) ((bestL cn of s b).getD k 0) ≤ 99 := by
  have hB := hs.2.2.2.2 b hb.1 hb.2
  have hw : 1 ≤ it s b 0 ∧ it s b 0 ≤ 20 := ⟨hB.1, hB.2.1⟩
  have ht := whenP_in hp ⟨hs.1, hs.2.1⟩ hB
  have h1 : BestW cn (Fc of) (Tc of) (ES cn of s b) (nodeP of s b) (whenP of s b) (it s b 1) (bestL cn of s b) (bestA cn of s b) := BestW_ex (EE_mono hp hw) (by omega) hA
  have h2 := wayB_ok hp hw hs.1 (bestL cn of s b) h1.1
  exact ⟨h1, h1.2.1, h2.1, h2.2⟩
theorem planP_ok {nd cn b : Int} {of s : Int → Int} (hp : PW nd cn of) (hs : SR nd cn of s) (hb : 0 ≤ b ∧ b < s 2) : SR nd cn of (planP cn of s b).1 ∧ (∀ k, k < 3 → (planP cn of s b).1 k = s k) ∧ st8 (planP cn of s b).2 := by
  have hg := SR_give hb.1 hs
  have e : ∀ k, k < 3 → giveP s b k = s k := fun k hk => set1_ne (by omega)
  have z : st8 0 := ⟨by decide, by decide⟩
  have hb' : 0 ≤ b ∧ b < giveP s b 2 := by rw [e 2 (by decide)]; exact hb
  have hw0 := SR_why hb.1 (Or.inl rfl) hg
  have hw1 := SR_why hb.1 (Or.inr rfl) hg
  have ew : ∀ v k, k < 3 → set1 (giveP s b) (3 + 20 * b + 6) v k = s k := fun v k hk => (set1_ne (by omega)).trans (e k hk)
  unfold planP
  split
  · exact ⟨hg, e, z⟩
  split
  · exact ⟨hg, e, z⟩
  split
  · exact ⟨hw0, ew 0, z⟩
  rename_i hA
  split
  · exact ⟨hw1, ew 1, z⟩
  · obtain ⟨h1, h2, h3, h4⟩ := best_ex hp hg hb' (by omega)
    have hm8 := hs.2.2.2.1
    have h5 : SR nd cn of (getP (set1 (giveP s b) (3 + 20 * b + 6) 1) b (bestL cn of (giveP s b) b) (bestB cn of (giveP s b) b)) := by
      refine getP_SR (by rw [ew 1 2 (by decide)]; exact hb) hw1 h2 (fun k hk => ?_)
      rw [it_set_ne (by omega) (by omega) (by omega)]
      have h6 := h4 k hk
      have := hg.1
      exact ⟨h6.1, h6.2.1, by omega, h6.2.2.2⟩
    exact ⟨giveAll_SR _ h5, fun k hk => (giveAll_lo _ _ _ hk).trans ((getP_lo hb.1 hk).trans (ew 1 k hk)), poSet_st _ _ _ (by omega)⟩
section PlansW
variable {G : GT} {n : Nat} {μ : Mem}
theorem S_plans (hg : gx G = FX) {Q : Int → Nat → Mem → Prop} {nd b : Int} (hp : PW nd (μ 399 2) (μ 400)) (hs : SR nd (μ 399 2) (μ 400) (μ 402)) (hb : 0 ≤ b ∧ b < μ 402 2)
    (q : ∀ ν, FrP μ ν → ν 402 = (planP (μ 399 2) (μ 400) (μ 402) b).1 → Q (planP (μ 399 2) (μ 400) (μ 402) b).2 n ν) : CI G Y_X11_plans [.inr 399, .inl b] n μ Q := by
  have hm8 := hs.2.2.2.1
  have hs1 := SR_give hb.1 hs
  refine m_X11_plans hg (S_givesUp hg (by omega) ?_)
  have e2 : (up μ 402 (3 + 20 * b + 9) 0) 402 = giveP (μ 402) b := up_row _ _ _ _
  have hF : FrP μ (up μ 402 (3 + 20 * b + 9) 0) := FrP.rf.s
  obtain ⟨PL, hpl⟩ : ∃ PL, PL = planP (μ 399 2) (μ 400) (μ 402) b := ⟨_, rfl⟩
  rw [← hpl] at q
  generalize up μ 402 (3 + 20 * b + 9) 0 = ν at e2 hF ⊢
  have e4 : ν 400 = μ 400 := hF.1 400 (by decide) (by decide) (by decide) (by decide) (by decide) (by decide)
  have e9 : ν 399 2 = μ 399 2 := hF.2 2 (by decide) (by decide)
  unfold planP at hpl
  have es2 : giveP (μ 402) b 2 = μ 402 2 := set1_ne (by omega)
  have es0 : giveP (μ 402) b 0 = μ 402 0 := set1_ne (by omega)
  have es1 : giveP (μ 402) b 1 = μ 402 1 := set1_ne (by omega)
  have h9 : it (giveP (μ 402) b) b 9 = 0 := it_set_at (by omega)
  generalize hs1' : giveP (μ 402) b = s1 at *
  generalize hof' : μ 400 = of at *
  generalize hcn' : μ 399 2 = cn at *
  have hB1 := hs1.2.2.2.2 b hb.1 (by omega)
  have hw : 1 ≤ it s1 b 0 ∧ it s1 b 0 ≤ 20 := ⟨hB1.1, hB1.2.1⟩
  have hgo : 0 ≤ it s1 b 1 ∧ it s1 b 1 < nd := ⟨hB1.2.2.1, hB1.2.2.2.1⟩
  have hwhen := whenP_in hp ⟨hs1.1, hs1.2.1⟩ hB1
  -- from the node and the time on
  have plan : ¬ (stateP of s1 b = 2 ∨ stateP of s1 b = 4 ∨ stateP of s1 b = 3) → B_X11_plans_99 G Q n ν b (nodeP of s1 b) (whenP of s1 b) := by
    intro hst
    rw [if_neg hst] at hpl
    refine b_X11_plans_99 hg (S_its hg (by omega) ?_)
    rw [e2]
    refine ⟨fun c => ?_, fun c => ?_⟩
    · rw [if_neg c] at hpl
      refine S_its hg (by omega) ?_
      rw [e2]
      refine S_laysTaken hg (nd := nd) (cn := cn) (by rw [e4]; exact hp) (by rw [e4, e2]; exact hs1) (fun ξ hB hξ => ?_)
      rw [e4, e2] at hξ
      have x4 : ξ 400 = of := (hB 400 (by decide)).trans e4
      have x2 : ξ 402 = s1 := (hB 402 (by decide)).trans e2
      have x9 : ξ 399 2 = cn := by rw [hB 399 (by decide)]; exact e9
      have hFx : FrP μ ξ := hF.but (by decide) hB
      have htk : Mk ξ (tkS of s1 (it s1 b 3)) := fun c t h0 h1 h2 h3 => (hξ c t h0 h1 h2 h3).trans (TK_x h9)
      refine S_its hg (by omega) (S_its hg (by omega) ?_)
      rw [x2]
      refine S_findsEnd hg (nd := nd) (tk := tkS of s1 (it s1 b 3)) (by rw [x9, x4]; exact hp) hw (by rw [x2]; exact ⟨hs1.1, hs1.2.1⟩) (by omega) hgo htk (fun ζ M A hW hA z27 z24 hM5 hMA hmin => ?_)
      rw [x9, x4, x2] at hA hMA hmin
      have hA' : A = bestA cn of s1 b := hA
      have hFz : FrP μ ζ := hFx.w hW
      have z4 : ζ 400 = of := (hW.1 400 (by decide) (by decide) (by decide) (by decide)).trans x4
      have z2 : ζ 402 = s1 := (hW.1 402 (by decide) (by decide) (by decide) (by decide)).trans x2
      have z1 : ζ 411 = ξ 411 := hW.1 411 (by decide) (by decide) (by decide) (by decide)
      have z9 : ζ 399 2 = cn := (hW.2 2 (by decide) (by decide)).trans x9
      refine ⟨fun hA9 => S_at hg (by omega) ⟨by omega, fun _ => ?_, fun g => absurd rfl g⟩, fun hA9 => S_at hg (by omega) ⟨by omega, fun g => absurd g (by decide), fun _ => ?_⟩⟩
      · -- no way
        rw [if_pos (by omega)] at hpl
        subst hpl
        refine b_X11_plans_168 hg St_402 ⟨by omega, fun _ => q _ hFz.s ?_, fun g => absurd rfl g⟩
        rw [up_row, z2]
      · rw [if_neg (by omega)] at hpl
        refine b_X11_plans_168 hg St_402 ⟨by omega, fun g => absurd g (by decide), fun _ => ?_⟩
        have y2 : (up ζ 402 (3 + 20 * b + 6) 1) 402 = set1 s1 (3 + 20 * b + 6) 1 := by rw [up_row, z2]
        have y4 : (up ζ 402 (3 + 20 * b + 6) 1) 400 = of := by rw [up_ne (by decide), z4]
        have y1 : (up ζ 402 (3 + 20 * b + 6) 1) 411 = ξ 411 := by rw [up_ne (by decide), z1]
        have y9 : (up ζ 402 (3 + 20 * b + 6) 1) 399 = ζ 399 := up_ne (by decide)
        have hFy : FrP μ (up ζ 402 (3 + 20 * b + 6) 1) := hFz.s
        generalize up ζ 402 (3 + 20 * b + 6) 1 = η at y2 y4 y1 y9 hFy ⊢
        have hi : ∀ w, 0 ≤ w → w < 20 → w ≠ 6 → it (set1 s1 (3 + 20 * b + 6) 1) b w = it s1 b w := fun w h0 h1 h2 => it_set_ne (by omega) ⟨h0, h1⟩ (Or.inr h2)
        refine S_its hg (by omega) ?_
        rw [y9, z27, y2, hi 2 (by decide) (by decide) (by decide)]
        refine ⟨fun c2 => ?_, fun c2 => ?_⟩
        · rw [if_neg (by omega)] at hpl
          subst hpl
          refine S_its hg (by omega) (S_its hg (by omega) ?_)
          rw [y2, hi 0 (by decide) (by decide) (by decide), hi 1 (by decide) (by decide) (by decide)]
          have hmono : monoE (ES cn of s1 b) := EE_mono hp hw
          have hE : EE (η 399 2) (η 400) (η 402) (tkS of s1 (it s1 b 3)) (it s1 b 0) (-9) = ES cn of s1 b := by
            rw [y9, z9, y4, y2]
            exact EE_cong (set1_ne (by omega)) (set1_ne (by omega))
          have hHH : HH cn (Fc of) (Tc of) (ES cn of s1 b) (it s1 b 1) A M (nodeP of s1 b) (whenP of s1 b) := HH_of hmono (by omega) hA hA9 hM5 hMA hmin
          refine S_findsWay hg (nd := nd) (tk := tkS of s1 (it s1 b 3)) (A := A) (M := M) (by rw [y9, z9, y4]; exact hp) hw (by rw [y2, show set1 s1 (3 + 20 * b + 6) 1 0 = s1 0 from set1_ne (by omega)]; exact ⟨hs1.1, hs1.2.1⟩) (by omega) hgo (fun c t h0 h1 h2 h3 => by rw [y1]; exact htk c t h0 h1 h2 h3) (by rw [y9]; exact z24) hM5 (by rw [y9]; exact z27) hA9 (by rw [hE, y9, z9, y4]; exact hHH) (fun θ l hX hL hW2 => ?_)
          rw [hE, y9, z9, y4] at hL
          rw [y4, y2, wayB_cong (show set1 s1 (3 + 20 * b + 6) 1 0 = s1 0 from set1_ne (by omega))] at hW2
          have hbest := best_of hmono (by omega) hA hM5 hL hmin
          have hl : bestL cn of s1 b = l := wayL_is hbest
          have hlen : l.length = M := hL.1
          have ebs : wayB of s1 (tkS of s1 (it s1 b 3)) (it s1 b 0) l (whenP of s1 b) = bestB cn of s1 b := by rw [← hl]; rfl
          rw [ebs, ← hl] at hW2
          rw [← hl] at hlen
          have t4 : θ 400 = of := (hX 400 (by decide) (by decide) (by decide)).trans y4
          have t2 : θ 402 = set1 s1 (3 + 20 * b + 6) 1 := (hX 402 (by decide) (by decide) (by decide)).trans y2
          have t9 : θ 399 = ζ 399 := (hX 399 (by decide) (by decide) (by decide)).trans y9
          have hFt : FrP μ θ := hFy.x hX
          have hbx := best_ex (b := b) hp hs1 ⟨hb.1, by omega⟩ (by omega)
          have eS2 : set1 s1 (3 + 20 * b + 6) 1 2 = μ 402 2 := (set1_ne (by omega)).trans es2
          refine S_plans211 hg (nd := nd) (s := set1 s1 (3 + 20 * b + 6) 1) (l := bestL cn of s1 b) (bs := bestB cn of s1 b) (by rw [t9, z9, t4]; exact hp) (by omega) (by omega) (by rw [t9, z24, hlen]) (fun k hk => hW2 k (by omega)) t2 ?_ (getP_lo hb.1 (by decide)) (fun κ hBk hκ => ?_)
          · rw [t9, z9, t4]
            refine getP_SR (by omega) (SR_why hb.1 (Or.inr rfl) hs1) hbx.2.1 (fun k hk => ?_)
            rw [hi 0 (by decide) (by decide) (by decide)]
            have h6 := hbx.2.2.2 k hk
            have := hs1.1
            exact ⟨h6.1, h6.2.1, by omega, h6.2.2.2⟩
          · rw [t4, eS2] at hκ ⊢
            exact q κ (hFt.but (by decide) hBk) hκ
        · rw [if_pos (by omega)] at hpl
          subst hpl
          exact q _ hFy y2
    · rw [if_pos c] at hpl
      subst hpl
      exact q ν hF e2
  -- how it stands, and where and when
  refine S_stateOf hg (nd := nd) (cn := cn) (by omega) (by rw [e4]; exact hp) (by rw [e4, e2]; exact hB1) ?_
  rw [e4, e2]
  have fin : (stateP of s1 b = 2 ∨ stateP of s1 b = 4 ∨ stateP of s1 b = 3) → Q 0 n ν := fun h => by
    rw [if_pos h] at hpl
    subst hpl
    exact q ν hF e2
  refine ⟨fun c => fin (Or.inl c), fun c1 => ⟨fun c => fin (Or.inr (Or.inl c)), fun c2 => ⟨fun c3 => ?_, fun c => fin (Or.inr (Or.inr c))⟩⟩⟩
  have hpn := plan (by omega)
  have when62 : B_X11_plans_62 G Q n ν b (nodeP of s1 b) := by
    refine b_X11_plans_62 hg (S_isOn hg (by omega) ?_ ?_)
    · intro c
      rw [e2] at c
      refine ⟨fun _ => ?_, fun g => absurd rfl g⟩
      rw [e2]
      unfold whenP at hpn
      rw [if_pos c] at hpn
      exact hpn
    · intro c
      rw [e2] at c
      have hon := hB1.2.2.2.2.2.2.2.2.2.2.2.2.1.resolve_left c
      have hsi := hB1.2.2.2.2.2.2.2.2.2.2.2.2.2.2.2.2 c
      have hc := hp.2.2.2.2 _ hon.1 hon.2
      have hc8 := hp.2.2.2.1
      have hd := tkD_le hw.1 hw.2 hc.2.2.2.2.2.2.2.2.2.1 hc.2.2.2.2.2.2.2.2.2.2.1
      refine ⟨fun g => absurd g (by decide), fun _ => S_its hg (by omega) (S_its hg (by omega) ?_)⟩
      rw [e2]
      refine S_arrival hg (by omega) (by omega) (by rw [e2]; exact hw) (by rw [e4]; omega) (by rw [e4]; omega) (by omega) ?_
      rw [e4, e2]
      unfold whenP at hpn
      rw [if_neg c] at hpn
      exact hpn
  unfold nodeP at when62
  refine S_isOn hg (by omega) ?_ ?_
  · intro c
    rw [e2] at c
    refine ⟨fun _ => S_its hg (by omega) ?_, fun g => absurd rfl g⟩
    rw [e2]
    rw [if_pos c] at when62
    exact when62
  · intro c
    rw [e2] at c
    have hon := hB1.2.2.2.2.2.2.2.2.2.2.2.2.1.resolve_left c
    have hc8 := hp.2.2.2.1
    refine ⟨fun g => absurd g (by decide), fun _ => S_its hg (by omega) ?_⟩
    rw [e2, e4]
    rw [if_neg c] at when62
    exact ⟨by omega, by omega, by omega, when62⟩
end PlansW
