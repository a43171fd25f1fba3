-- what keeps what holds
theorem SV_m {nd cn : Int} {of s : Int → Int} (h : SV nd cn of s) : SR nd cn of s := h.1
theorem SV_set1 {nd cn v : Int} {of s : Int → Int} (h : SV nd cn of s) : SV nd cn of (set1 s 1 v) :=
  SV_give h (SR_set1 h.1) (set1_ne (by decide)) (set1_ne (by decide)) (fun b b0 _ => Or.inl (fun w w0 w1 _ => set1_ne (by omega)))
/-- planning one keeps all -/
theorem planP_SV {nd cn b : Int} {of s : Int → Int} (hp : PW nd cn of) (hs : SV nd cn of s) (hb : 0 ≤ b ∧ b < s 2) : SV nd cn of (planP cn of s b).1 := by
  have hg := SV_giveP hs hb.1
  have e2 : giveP s b 2 = s 2 := set1_ne (by omega)
  have e0 : giveP s b 0 = s 0 := set1_ne (by omega)
  have hb' : 0 ≤ b ∧ b < giveP s b 2 := by rw [e2]; exact hb
  have h9 : it (giveP s b) b 9 = 0 := it_set_at (by omega)
  unfold planP
  by_cases c1 : stateP of (giveP s b) b = 2 ∨ stateP of (giveP s b) b = 4 ∨ stateP of (giveP s b) b = 3
  · rw [if_pos c1]; exact hg
  · rw [if_neg c1]
    by_cases c2 : nodeP of (giveP s b) b = it (giveP s b) b 1
    · rw [if_pos c2]; exact hg
    · rw [if_neg c2]
      by_cases c3 : 9999 ≤ bestA cn of (giveP s b) b
      · rw [if_pos c3]; exact SV_why hg hb.1 (Or.inl rfl)
      · rw [if_neg c3]
        by_cases c4 : it (giveP s b) b 2 < bestA cn of (giveP s b) b
        · rw [if_pos c4]; exact SV_why hg hb.1 (Or.inr rfl)
        · rw [if_neg c4]
          -- the reason written is nothing to the ways
          have hy := SV_why hg hb.1 (v := 1) (Or.inr rfl)
          have hgR := hg.1
          have y0 : set1 (giveP s b) (3 + 20 * b + 6) 1 0 = giveP s b 0 := set1_ne (by omega)
          have y1 : set1 (giveP s b) (3 + 20 * b + 6) 1 1 = giveP s b 1 := set1_ne (by omega)
          have y2 : set1 (giveP s b) (3 + 20 * b + 6) 1 2 = giveP s b 2 := set1_ne (by omega)
          have yi : ∀ o w, 0 ≤ w → w < 20 → w ≠ 6 → it (set1 (giveP s b) (3 + 20 * b + 6) 1) o w = it (giveP s b) o w := fun o w w0 w1 w6 => it_set_ne (by omega) ⟨w0, w1⟩ (Or.inr w6)
          have ytk : tkS of (set1 (giveP s b) (3 + 20 * b + 6) 1) (it (giveP s b) b 3) = tkS of (giveP s b) (it (giveP s b) b 3) := by
            funext c t
            unfold tkS TK
            rw [y2]
            apply propext
            constructor
            · rintro ⟨o, o0, o1, h⟩
              refine ⟨o, o0, o1, ?_⟩
              have hB := hgR.2.2.2.2 o o0 o1
              have eq : EqB (giveP s b) (set1 (giveP s b) (3 + 20 * b + 6) 1) o := fun w w0 w1 w6 => yi o w w0 w1 w6
              have hh := eq.h hB
              rw [yi o 3 (by decide) (by decide) (by decide), yi o 9 (by decide) (by decide) (by decide)] at h
              rcases h with h | ⟨h, h', k, k0, k1, h''⟩
              · refine Or.inl ?_
                unfold OnT at h ⊢
                rw [yi o 7 (by decide) (by decide) (by decide), yi o 8 (by decide) (by decide) (by decide), yi o 0 (by decide) (by decide) (by decide)] at h
                exact h
              · refine Or.inr ⟨h, h', k, k0, k1, ?_⟩
                unfold HpT at h'' ⊢
                rw [(hh.1 k k0 k1).1, (hh.1 k k0 k1).2, yi o 0 (by decide) (by decide) (by decide)] at h''
                exact h''
            · rintro ⟨o, o0, o1, h⟩
              refine ⟨o, o0, o1, ?_⟩
              have hB := hgR.2.2.2.2 o o0 o1
              have eq : EqB (giveP s b) (set1 (giveP s b) (3 + 20 * b + 6) 1) o := fun w w0 w1 w6 => yi o w w0 w1 w6
              have hh := eq.h hB
              rw [yi o 3 (by decide) (by decide) (by decide), yi o 9 (by decide) (by decide) (by decide)]
              rcases h with h | ⟨h, h', k, k0, k1, h''⟩
              · refine Or.inl ?_
                unfold OnT at h ⊢
                rw [yi o 7 (by decide) (by decide) (by decide), yi o 8 (by decide) (by decide) (by decide), yi o 0 (by decide) (by decide) (by decide)]
                exact h
              · refine Or.inr ⟨h, h', k, k0, k1, ?_⟩
                unfold HpT at h'' ⊢
                rw [(hh.1 k k0 k1).1, (hh.1 k k0 k1).2, yi o 0 (by decide) (by decide) (by decide)]
                exact h''
          have yn : nodeP of (set1 (giveP s b) (3 + 20 * b + 6) 1) b = nodeP of (giveP s b) b := by
            unfold nodeP
            rw [yi b 7 (by decide) (by decide) (by decide), yi b 4 (by decide) (by decide) (by decide)]
          have yw : whenP of (set1 (giveP s b) (3 + 20 * b + 6) 1) b = whenP of (giveP s b) b := by
            unfold whenP arrT
            rw [yi b 7 (by decide) (by decide) (by decide), yi b 8 (by decide) (by decide) (by decide), yi b 0 (by decide) (by decide) (by decide), y0]
          have yE : ES cn of (set1 (giveP s b) (3 + 20 * b + 6) 1) b = ES cn of (giveP s b) b := by
            unfold ES
            rw [yi b 3 (by decide) (by decide) (by decide), yi b 0 (by decide) (by decide) (by decide), ytk]
            exact EE_cong y0 y1
          have yA : bestA cn of (set1 (giveP s b) (3 + 20 * b + 6) 1) b = bestA cn of (giveP s b) b := by
            unfold bestA
            rw [yE, yn, yw, yi b 1 (by decide) (by decide) (by decide)]
          have yL : bestL cn of (set1 (giveP s b) (3 + 20 * b + 6) 1) b = bestL cn of (giveP s b) b := by
            unfold bestL
            rw [yE, yn, yw, yi b 1 (by decide) (by decide) (by decide)]
          have yB : bestB cn of (set1 (giveP s b) (3 + 20 * b + 6) 1) b = bestB cn of (giveP s b) b := by
            unfold bestB
            rw [yL, yw, yi b 3 (by decide) (by decide) (by decide), yi b 0 (by decide) (by decide) (by decide), ytk]
            exact wayB_cong y0 _ _
          have hst : stateP of (set1 (giveP s b) (3 + 20 * b + 6) 1) b ≤ 1 := by
            have h1 := stateP_in (of := of) (s := giveP s b) (b := b)
            have h2 : stateP of (giveP s b) b ≤ 1 := by omega
            rw [stateP_open] at h2 ⊢
            rw [yi b 7 (by decide) (by decide) (by decide), yi b 4 (by decide) (by decide) (by decide), yi b 1 (by decide) (by decide) (by decide), yi b 5 (by decide) (by decide) (by decide), yi b 2 (by decide) (by decide) (by decide), y0]
            exact h2
          have := getP_SV hp hy (b := b) (by rw [y2, e2]; exact hb) (by rw [yi b 9 (by decide) (by decide) (by decide)]; exact h9) hst (by rw [yn, yi b 1 (by decide) (by decide) (by decide)]; exact c2) (by rw [yA, yi b 2 (by decide) (by decide) (by decide)]; omega)
          rw [yL, yB, y2, e2] at this
          exact this
theorem PA_SV {nd cn : Int} {of : Int → Int} (hp : PW nd cn of) : ∀ (r : Nat) {s s' : Int → Int} {x : Int}, SV nd cn of s → PA cn of r s x s' → SV nd cn of s' := by
  intro r
  induction r with
  | zero => rintro s s' x hs ⟨-, rfl⟩; exact hs
  | succ r ih =>
    rintro s s' x hs ⟨b, hb, h⟩
    exact ih (planP_SV hp hs ⟨hb.1, hb.2.1⟩) h
/-- a new bundle -/
theorem newP_SV {nd cn : Int} {of s : Int → Int} {v g w d p : Int} (hs : SV nd cn of s) (hm : s 2 ≤ 7) (hv : 0 ≤ v ∧ v < nd) (hg : 0 ≤ g ∧ g < nd) (hw : 1 ≤ w ∧ w ≤ 20) (hd : 0 ≤ d ∧ d ≤ 99) (hp : 0 ≤ p ∧ p ≤ 2) : SV nd cn of (newP s v g w d p) := by
  have h0 := hs.1.2.2.1
  have l2 : newP s v g w d p 2 = s 2 + 1 := (newP_lo h0 (by decide)).trans (if_pos rfl)
  have l0 : newP s v g w d p 0 = s 0 := (newP_lo h0 (by decide)).trans (if_neg (by decide))
  have eo : ∀ o, 0 ≤ o → o < s 2 → EqB s (newP s v g w d p) o := fun o o0 o1 k k0 k1 _ => (newP_it h0 o0 ⟨k0, k1⟩).trans (if_neg (by omega))
  have n9 : it (newP s v g w d p) (s 2) 9 = 0 := (newP_it h0 h0 (by omega)).trans (by rw [if_pos rfl]; rfl)
  have n7 : it (newP s v g w d p) (s 2) 7 = -9 := (newP_it h0 h0 (by omega)).trans (by rw [if_pos rfl]; rfl)
  have nT : ∀ c t, 0 ≤ c → ¬ TKb of (newP s v g w d p) (s 2) c t := by
    intro c t hc hT
    rcases hT with hT | ⟨k, k0, k1, -⟩
    · have := hT.1
      omega
    · omega
  refine ⟨newP_SR hs.1 hm hv hg hw hd hp, fun b b0 b1 => ?_, fun b o c t b0 b1 o0 o1 hne hc h1 h2 => ?_⟩
  · by_cases e : b = s 2
    · rw [e]
      exact ⟨CH_0 n9 (fun q => absurd n7 q), fun q => absurd n7 q, fun _ q => by omega⟩
    · have hb := hs.2.1 b b0 (by omega)
      have hB := hs.1.2.2.2.2 b b0 (by omega)
      exact ⟨CH_eq (eo b b0 (by omega)) hB hb.1, NW_eq (eo b b0 (by omega)) l0 hB hb.2⟩
  · by_cases e : b = s 2
    · rw [e] at h1; exact nT c t hc h1
    · by_cases e2 : o = s 2
      · rw [e2] at h2; exact nT c t hc h2
      · exact hs.2.2 b o c t b0 (by omega) o0 (by omega) hne hc ((TKb_eq (eo b b0 (by omega)) (hs.1.2.2.2.2 b b0 (by omega))).mp h1) ((TKb_eq (eo o o0 (by omega)) (hs.1.2.2.2.2 o o0 (by omega))).mp h2)
/-- dropped -/
theorem dropP_SV {nd cn b : Int} {of s : Int → Int} (hs : SV nd cn of s) (hb : 0 ≤ b ∧ b < s 2) : SV nd cn of (dropP s b) := by
  have l : ∀ k, k < 3 → dropP s b k = s k := fun k hk => (set1_ne (by omega)).trans (set1_ne (by omega))
  have e : ∀ o w, 0 ≤ w → w < 20 → (o ≠ b ∨ (w ≠ 5 ∧ w ≠ 9)) → it (dropP s b) o w = it s o w := fun o w w0 w1 h => (it_set_ne (by omega) ⟨w0, w1⟩ (by omega)).trans (it_set_ne (by omega) ⟨w0, w1⟩ (by omega))
  have e5 : it (dropP s b) b 5 = 1 := it_set_at (by omega)
  have e9 : it (dropP s b) b 9 = 0 := (it_set_ne (by omega) (by omega) (by omega)).trans (it_set_at (by omega))
  have hR : SR nd cn of (dropP s b) := by
    obtain ⟨h1, h2, h3, h4, h5⟩ := hs.1
    have l0 := l 0 (by decide)
    have l2 := l 2 (by decide)
    refine ⟨by omega, by omega, by omega, by omega, fun o o0 o1 => ?_⟩
    by_cases eo : o = b
    · rw [eo]
      obtain ⟨a1, a2, a3, a4, a5, a6, a7, a8, a9, a10, a11, a12, a13, a14, a15, a16, a17⟩ := h5 b hb.1 hb.2
      have f : ∀ w, 0 ≤ w → w < 20 → w ≠ 5 → w ≠ 9 → it (dropP s b) b w = it s b w := fun w w0 w1 w5 w9 => e b w w0 w1 (Or.inr ⟨w5, w9⟩)
      unfold BR
      rw [f 0 (by decide) (by decide) (by decide) (by decide), f 1 (by decide) (by decide) (by decide) (by decide), f 2 (by decide) (by decide) (by decide) (by decide), f 3 (by decide) (by decide) (by decide) (by decide), f 4 (by decide) (by decide) (by decide) (by decide), f 6 (by decide) (by decide) (by decide) (by decide), f 7 (by decide) (by decide) (by decide) (by decide), f 8 (by decide) (by decide) (by decide) (by decide), e5, e9]
      exact ⟨a1, a2, a3, a4, a5, a6, a7, a8, a9, a10, Or.inr rfl, a12, a13, by decide, by decide, fun k k0 k1 => by omega, a17⟩
    · exact BR_same (fun w w0 w1 => e o w w0 w1 (Or.inl eo)) (h5 o o0 (by omega))
  refine SV_give hs hR (l 0 (by decide)) (l 2 (by decide)) (fun o o0 o1 => ?_)
  by_cases eo : o = b
  · rw [eo]
    exact Or.inr ⟨e9, fun w w0 w1 w5 _ w9 => e b w w0 w1 (Or.inr ⟨w5, w9⟩)⟩
  · exact Or.inl (fun w w0 w1 _ => e o w w0 w1 (Or.inl eo))
/-- a contact lost -/
theorem lossP_SV {nd cn c : Int} {of s : Int → Int} (hs : SV nd cn of s) : SV nd cn of (lossP of s c) := by
  have hm := SV_set1 (v := iOr (s 1) (iShl 1 c)) hs
  have hm2 : missP s c 2 = s 2 := set1_ne (by decide)
  have h0 := hs.1.2.2.1
  obtain ⟨hR, hv, hd⟩ := hm
  have hRl : SR nd cn of (lossP of s c) := loseS_SR _ hR
  have l : ∀ k, k < 3 → lossP of s c k = missP s c k := fun k hk => loseS_lo _ hk
  have f : ∀ o w, 0 ≤ w → w < 20 → w ≠ 7 → w ≠ 9 → it (lossP of s c) o w = it (missP s c) o w := fun o w w0 w1 w7 w9 => loseS_ge _ ⟨w0, w1⟩ (Or.inr ⟨w7, w9⟩)
  have g : ∀ o, 0 ≤ o → o < s 2 → it (lossP of s c) o 7 = @ite _ (cutB of (missP s c) c o) (Classical.propDecidable _) (-9) (it (missP s c) o 7) ∧ it (lossP of s c) o 9 = @ite _ (lostB of (missP s c) c o) (Classical.propDecidable _) 0 (it (missP s c) o 9) := fun o o0 o1 => loseS_lt _ o0 (by omega)
  have same : ∀ o, 0 ≤ o → o < s 2 → ¬ cutB of (missP s c) c o → GvB (missP s c) (lossP of s c) o := by
    intro o o0 o1 hc
    obtain ⟨g7, g9⟩ := g o o0 o1
    rw [if_neg hc] at g7
    by_cases hl : lostB of (missP s c) c o
    · rw [if_pos hl] at g9
      refine Or.inr ⟨g9, fun w w0 w1 _ _ w9 => ?_⟩
      by_cases e7 : w = 7
      · rw [e7]; exact g7
      · exact f o w w0 w1 e7 w9
    · rw [if_neg hl] at g9
      refine Or.inl (fun w w0 w1 _ => ?_)
      by_cases e7 : w = 7
      · rw [e7]; exact g7
      · by_cases e9 : w = 9
        · rw [e9]; exact g9
        · exact f o w w0 w1 e7 e9
  have cut : ∀ o, 0 ≤ o → o < s 2 → cutB of (missP s c) c o → it (lossP of s c) o 7 = -9 ∧ it (lossP of s c) o 9 = 0 := by
    intro o o0 o1 hc
    obtain ⟨g7, g9⟩ := g o o0 o1
    rw [if_pos hc] at g7
    rw [if_pos (show lostB of (missP s c) c o from Or.inl hc)] at g9
    exact ⟨g7, g9⟩
  have hT : ∀ o c' t, 0 ≤ o → o < s 2 → 0 ≤ c' → TKb of (lossP of s c) o c' t → TKb of (missP s c) o c' t := by
    intro o c' t o0 o1 hc' h
    by_cases hc : cutB of (missP s c) c o
    · obtain ⟨e7, e9⟩ := cut o o0 o1 hc
      rcases h with h | ⟨k, k0, k1, -⟩
      · have := h.1
        omega
      · omega
    · exact GvB_TK (same o o0 o1 hc) (hR.2.2.2.2 o o0 (by rw [show set1 s 1 (iOr (s 1) (iShl 1 c)) 2 = s 2 from hm2]; exact o1)) h
  have e2 : lossP of s c 2 = s 2 := (l 2 (by decide)).trans hm2
  refine ⟨hRl, fun o o0 o1 => ?_, fun b o c' t b0 b1 o0 o1 hne hc' h1 h2 => ?_⟩
  · rw [e2] at o1
    have o1' : o < set1 s 1 (iOr (s 1) (iShl 1 c)) 2 := by rw [show set1 s 1 (iOr (s 1) (iShl 1 c)) 2 = s 2 from hm2]; exact o1
    by_cases hc : cutB of (missP s c) c o
    · obtain ⟨e7, e9⟩ := cut o o0 o1 hc
      exact ⟨CH_0 e9 (fun q => absurd e7 q), fun q => absurd e7 q, fun _ q => by omega⟩
    · have hb := hv o o0 o1'
      have hB := hR.2.2.2.2 o o0 o1'
      exact ⟨GvB_CH (same o o0 o1 hc) hB hb.1, GvB_NW (same o o0 o1 hc) (l 0 (by decide)) hB hb.2⟩
  · rw [e2] at b1 o1
    have b1' : b < set1 s 1 (iOr (s 1) (iShl 1 c)) 2 := by rw [show set1 s 1 (iOr (s 1) (iShl 1 c)) 2 = s 2 from hm2]; exact b1
    have o1' : o < set1 s 1 (iOr (s 1) (iShl 1 c)) 2 := by rw [show set1 s 1 (iOr (s 1) (iShl 1 c)) 2 = s 2 from hm2]; exact o1
    exact hd b o c' t b0 b1' o0 o1' hne hc' (hT b c' t b0 b1 hc' h1) (hT o c' t o0 o1 hc' h2)
theorem findP_SV {nd cn c : Int} {of s : Int → Int} (hs : SV nd cn of s) : SV nd cn of (findP s c) := SV_set1 hs
/-- the bits of missed contacts stay eight -/
theorem st8_miss {s : Int → Int} {c : Int} (h : st8 (s 1)) (hc : 0 ≤ c ∧ c < 8) : st8 (missP s c 1) := by
  unfold missP
  rw [set1_at]
  exact iOr_st h (shl_st hc)
theorem st8_find {s : Int → Int} {c : Int} (h : st8 (s 1)) (hc : 0 ≤ c ∧ c < 8) : st8 (findP s c 1) := by
  unfold findP
  rw [set1_at]
  exact st_and h hc
