-- class and model side by side: the rest but for plan
section More
variable {G : GT} {n : Nat} {μ : Mem}
theorem P_bundle (hg : gx G = FX) {b w : Int} (h : INV n μ) : Pr G Y_X10_bundle Y_X11_bundle [.inl b, .inl w] n μ := by
  have hM := h.mi
  have hI := h
  obtain ⟨h1, hp, ⟨hs, h8, hS⟩, hN, h13, hH, -⟩ := hI
  have hm8 := hs.1.2.2.2.1
  have bad : ¬ ((0 ≤ b ∧ b < μ 402 2) ∧ 0 ≤ w ∧ w ≤ 8) → CI G Y_X11_bundle [.inr 399, .inl b, .inl w] n μ (fun b n2 μ2 => -1 = b ∧ INV n2 μ2) := fun hno =>
    S_bundle hg hM (fun _ ν hq => ⟨rfl, INV_q h (fun _ _ _ => rfl) h13 hq⟩) (fun a b => absurd ⟨a, b⟩ hno)
  unfold Pr
  refine m_X10_bundle hg (C_hasBundle hg St_18 hS (fun z => ⟨fun _ => bad (fun y => z y.1), fun y => absurd rfl y⟩) (fun z => ⟨fun y => absurd y (by decide), fun _ => C_within hg (fun y => ⟨fun x => absurd rfl x, fun _ => bad (fun x => y x.2)⟩) (fun y => ⟨fun _ => ?_, fun x => absurd x (by decide)⟩)⟩))
  have oB := St_SB St_18 (b := b) z.1 (by omega)
  have hbr := hS.2.2.2 b z.1 z.2
  refine S_bundleAt hg St_18 ⟨z.1, by omega⟩ ⟨oB, ?_⟩
  rw [hS.2.1]
  refine S_prop hg oB hp hN (hs.1.2.2.2.2 b z.1 z.2) hbr.1 (hs.2.1 b z.1 z.2).1 (hbr.2 (ms_0 ⟨z.1, by omega⟩)) y ?_
  exact S_bundle hg hM (fun x => absurd ⟨z, y⟩ x) (fun _ _ ν hq => ⟨rfl, INV_q h (fun _ _ _ => rfl) h13 hq⟩)
theorem P_hop (hg : gx G = FX) {b k w : Int} (hk : inR k) (h : INV n μ) : Pr G Y_X10_hop Y_X11_hop [.inl b, .inl k, .inl w] n μ := by
  have hM := h.mi
  have hI := h
  obtain ⟨h1, hp, ⟨hs, h8, hS⟩, hN, h13, hH, -⟩ := hI
  have hm8 := hs.1.2.2.2.1
  have bad : ¬ ((0 ≤ b ∧ b < μ 402 2) ∧ 0 ≤ k ∧ 0 ≤ w ∧ w ≤ 1) → CI G Y_X11_hop [.inr 399, .inl b, .inl k, .inl w] n μ (fun b n2 μ2 => -1 = b ∧ INV n2 μ2) := fun hno =>
    S_hop hg hM hk (fun _ ν hq => ⟨rfl, INV_q h (fun _ _ _ => rfl) h13 hq⟩) (fun a b c => absurd ⟨a, b, c⟩ hno)
  unfold Pr
  refine m_X10_hop hg (C_hasBundle hg St_18 hS (fun z => ⟨fun _ => bad (fun y => z y.1), fun y => absurd rfl y⟩) (fun z => ⟨fun y => absurd y (by decide), fun _ => ⟨fun y => bad (fun x => by omega), fun y => C_within hg (fun x => ⟨fun u => absurd rfl u, fun _ => bad (fun u => x u.2.2)⟩) (fun x => ⟨fun _ => ?_, fun u => absurd u (by decide)⟩)⟩⟩))
  have oB := St_SB St_18 (b := b) z.1 (by omega)
  have hbr := (hS.2.2.2 b z.1 z.2).1
  have hB := hs.1.2.2.2.2 b z.1 z.2
  have h90 := hB.2.2.2.2.2.2.2.2.2.2.2.2.2.1
  have fin : ∀ a, a = hopP (μ 402) b k w → CI G Y_X11_hop [.inr 399, .inl b, .inl k, .inl w] n μ (fun b n2 μ2 => a = b ∧ INV n2 μ2) := fun a ea =>
    S_hop hg hM hk (fun u => absurd ⟨z, by omega, x⟩ u) (fun _ _ _ ν hq => ⟨ea, INV_q h (fun _ _ _ => rfl) h13 hq⟩)
  have rowv : 0 ≤ k → k < rwN (μ 402) b → hopP (μ 402) b k w = if w = 0 then rwC (μ 402) b k else rwB (μ 402) b k := by
    intro k0 k1
    unfold rwN at k1
    unfold hopP
    rcases onP_in (μ 402) b with ⟨h7, e⟩ | ⟨h7, e⟩
    · rw [if_neg (fun u => u.1 h7), e, Int.sub_zero, if_pos (by omega), (row_off h7 k).1, (row_off h7 k).2]
      by_cases c : w = 0
      · rw [if_pos c, c, Int.add_zero]; rfl
      · rw [if_neg c, show w = 1 by omega]; rfl
    · by_cases ck : k = 0
      · rw [if_pos ⟨h7, ck⟩, ck, (row_on h7).1, (row_on h7).2.1]
        by_cases c : w = 0
        · rw [if_pos c, c]; rfl
        · rw [if_neg c, show w = 1 by omega]; rfl
      · rw [if_neg (fun u => ck u.2), e, if_pos (by omega), ((row_on h7).2.2 k (by omega)).1, ((row_on h7).2.2 k (by omega)).2]
        by_cases c : w = 0
        · rw [if_pos c, c, Int.add_zero]; rfl
        · rw [if_neg c, show w = 1 by omega]; rfl
  have rowo : ¬ (0 ≤ k ∧ k < rwN (μ 402) b) → hopP (μ 402) b k w = -9 := by
    intro hno
    unfold rwN at hno
    unfold hopP
    rcases onP_in (μ 402) b with ⟨h7, e⟩ | ⟨h7, e⟩
    · rw [if_neg (fun u => u.1 h7), if_neg (by omega)]
    · rw [if_neg (fun u => by omega), if_neg (by omega)]
  have tail : ∀ c : Int, c = w → B_X10_hop_47 G (fun a n1 μ1 => CI G Y_X11_hop [.inr 399, .inl b, .inl k, .inl w] n1 μ1 (fun b n2 μ2 => a = b ∧ INV n2 μ2)) n μ c k (18 + 4 + 1 + 3 * b + 1) := by
    intro c ec
    refine b_X10_hop_47 hg (st_0_1 oB) (S_cell hg oB hB hbr (by omega) (fun k0 k1 => fin _ ?_) (fun u => fin _ (rowo u).symm))
    rw [rowv k0 k1, ec]
    by_cases c0 : w = 0
    · rw [if_pos c0, if_pos c0]
    · rw [if_neg c0, if_neg c0, if_pos (by omega)]
  exact S_bundleAt hg St_18 ⟨z.1, by omega⟩ ⟨oB, fun u => tail 1 (by omega), fun u => tail 0 u.symm⟩
theorem P_tick (hg : gx G = FX) {c t : Int} (h : INV n μ) : Pr G Y_X10_tick Y_X11_tick [.inl c, .inl t] n μ := by
  have hM := h.mi
  have hI := h
  obtain ⟨h1, hp, ⟨hs, h8, hS⟩, hN, h13, hH, -⟩ := hI
  have bad : ¬ ((0 ≤ c ∧ c < μ 399 2) ∧ μ 402 0 ≤ t ∧ t ≤ 99) → CI G Y_X11_tick [.inr 399, .inl c, .inl t] n μ (fun b n2 μ2 => -1 = b ∧ INV n2 μ2) := fun hno =>
    S_tick hg hM (fun _ ν hq => ⟨rfl, INV_q h (fun _ _ _ => rfl) h13 hq⟩) (fun a b => absurd ⟨a, b⟩ hno)
  unfold Pr
  refine m_X10_tick hg (C_hasContact hg hN (fun z => ⟨fun _ => bad (fun y => z y.1), fun y => absurd rfl y⟩) (fun z => ⟨fun y => absurd y (by decide), fun _ => ?_⟩))
  rw [hS.2.1]
  refine C_within hg (fun y => ⟨fun x => absurd rfl x, fun _ => bad (fun x => y x.2)⟩) (fun y => ⟨fun _ => ?_, fun x => absurd x (by decide)⟩)
  refine C_takerOf hg St_18 hs.1 hS z.1 (fun r hr => ?_)
  exact S_tick hg hM (fun x => absurd ⟨z, y⟩ x) (fun _ _ r' hr' ν hq => ⟨TickP_one hr hr', INV_q h (fun _ _ _ => rfl) h13 hq⟩)
theorem P_contact (hg : gx G = FX) {c w : Int} (h : INV n μ) : Pr G Y_X10_contact Y_X11_contact [.inl c, .inl w] n μ := by
  have hM := h.mi
  have hI := h
  obtain ⟨h1, hp, ⟨hs, h8, hS⟩, hN, h13, hH, -⟩ := hI
  have bad : ¬ ((0 ≤ c ∧ c < μ 399 2) ∧ 0 ≤ w ∧ w ≤ 6) → CI G Y_X11_contact [.inr 399, .inl c, .inl w] n μ (fun b n2 μ2 => -1 = b ∧ INV n2 μ2) := fun hno =>
    S_contact hg hM (fun _ ν hq => ⟨rfl, INV_q h (fun _ _ _ => rfl) h13 hq⟩) (fun a b => absurd ⟨a, b⟩ hno)
  unfold Pr
  refine m_X10_contact hg (C_hasContact hg hN (fun z => ⟨fun _ => bad (fun y => z y.1), fun y => absurd rfl y⟩) (fun z => ⟨fun y => absurd y (by decide), fun _ => C_within hg (fun y => ⟨fun x => absurd rfl x, fun _ => bad (fun x => y x.2)⟩) (fun y => ⟨fun _ => ⟨fun x => ?_, fun x => ?_⟩, fun x => absurd x (by decide)⟩)⟩))
  · have fin : ∀ a, a = cf (μ 400) c w → CI G Y_X11_contact [.inr 399, .inl c, .inl w] n μ (fun b n2 μ2 => a = b ∧ INV n2 μ2) := fun a ea =>
      S_contact hg hM (fun u => absurd ⟨z, y⟩ u) (fun _ _ ν hq => ⟨by rw [if_pos (by omega)]; exact ea, INV_q h (fun _ _ _ => rfl) h13 hq⟩)
    refine S_contactAt hg St_7 hN hp.2.2.2.1 z (fun p hco hpk => ⟨hco, m_X1_property hg ⟨fun u => absurd u (by omega), fun u => ⟨hco, fin _ ?_⟩, fun u => ⟨hco, fin _ ?_⟩, fun u => ⟨hco, fin _ ?_⟩, fun u => ⟨hco, fin _ ?_⟩, fun u => ⟨hco, fin _ ?_⟩, fun u => ⟨hco, fin _ ?_⟩⟩⟩)
    · rw [u]; exact hpk 0 (by decide) (by decide)
    · rw [u]; exact hpk 1 (by decide) (by decide)
    · rw [u]; exact hpk 2 (by decide) (by decide)
    · rw [u]; exact hpk 3 (by decide) (by decide)
    · rw [u]; exact hpk 4 (by decide) (by decide)
    · rw [u]; exact hpk 5 (by decide) (by decide)
  · refine C_isMissed hg St_18 hS (fun u => ⟨fun _ => ?_, fun v => absurd rfl v⟩) (fun u => ⟨fun v => absurd v (by decide), fun _ => ?_⟩)
    · exact S_contact hg hM (fun v => absurd ⟨z, y⟩ v) (fun _ _ ν hq => ⟨by rw [if_neg (by omega), if_neg u], INV_q h (fun _ _ _ => rfl) h13 hq⟩)
    · exact S_contact hg hM (fun v => absurd ⟨z, y⟩ v) (fun _ _ ν hq => ⟨by rw [if_neg (by omega), if_pos u], INV_q h (fun _ _ _ => rfl) h13 hq⟩)
theorem P_count (hg : gx G = FX) {w : Int} (h : INV n μ) : Pr G Y_X10_count Y_X11_count [.inl w] n μ := by
  have hM := h.mi
  have hI := h
  obtain ⟨h1, hp, ⟨hs, h8, hS⟩, hN, h13, hH, hIm, hO, hT, hTR⟩ := hI
  have fin : ∀ a, a = cntW μ w → CI G Y_X11_count [.inr 399, .inl w] n μ (fun b n2 μ2 => a = b ∧ INV n2 μ2) := fun a ea =>
    S_count hg hM (fun ν hq => ⟨ea, INV_q h (fun _ _ _ => rfl) h13 hq⟩)
  unfold cntW at fin
  unfold Pr
  refine m_X10_count hg ⟨fun u => fin _ ?_, fun u => fin _ ?_, fun u => fin _ ?_, fun u => fin _ ?_, fun u => fin _ ?_, fun u => ?_, fun u => ?_, fun u => fin _ ?_, fun u => fin _ ?_, fun u => fin _ ?_⟩
  · rw [if_neg (by omega), if_neg (by omega), if_neg (by omega), if_neg (by omega), if_neg (by omega), if_neg (by omega), if_neg (by omega), if_neg (by omega), if_neg (by omega)]
  · rw [if_pos u]; exact hN.1
  · rw [if_neg (by omega), if_pos u]; exact hN.2.1
  · rw [if_neg (by omega), if_neg (by omega), if_pos u]; exact hS.1
  · rw [if_neg (by omega), if_neg (by omega), if_neg (by omega), if_pos u]; exact hS.2.1
  · refine C_countStanding hg St_18 hp hN hs hS (fin _ ?_)
    rw [if_neg (by omega), if_neg (by omega), if_neg (by omega), if_neg (by omega), if_pos u]
  · refine C_countStanding hg St_18 hp hN hs hS (fin _ ?_)
    rw [if_neg (by omega), if_neg (by omega), if_neg (by omega), if_neg (by omega), if_neg (by omega), if_pos u]
  · rw [if_neg (by omega), if_neg (by omega), if_neg (by omega), if_neg (by omega), if_neg (by omega), if_neg (by omega), if_pos u]; exact hO.1
  · rw [if_neg (by omega), if_neg (by omega), if_neg (by omega), if_neg (by omega), if_neg (by omega), if_neg (by omega), if_neg (by omega), if_pos u]; exact hTR.1
  · rw [if_neg (by omega), if_neg (by omega), if_neg (by omega), if_neg (by omega), if_neg (by omega), if_neg (by omega), if_neg (by omega), if_neg (by omega), if_pos u]; exact hH.1
theorem P_undo (hg : gx G = FX) (h : INV n μ) : Pr G Y_X10_undo Y_X11_undo [] n μ := by
  have hI := h
  obtain ⟨h1, hp, ⟨hs, h8, hS⟩, hN, h13, hH, hIm, hO, hT, hTR⟩ := hI
  have hu := hH.2.2.1
  unfold Pr
  refine m_X10_undo hg ?_
  rw [hH.1]
  refine ⟨fun z => ?_, fun z => ?_⟩
  · refine C_takeBack hg hH (by omega) (fun ν hF hHν hSν => ?_)
    rw [hHν.1]
    have e9 : ν 399 = μ 399 := hF 399 (by decide) (by decide)
    have e3 : ν 403 = μ 403 := hF 403 (by decide) (by decide)
    refine S_undo hg (by rw [e9]; exact hu) (fun y => absurd y (by rw [e9]; exact z)) (fun _ ξ x1 x2 x3 x4 => ⟨by rw [e9], INV_ph h (fun r r1 r2 r3 r4 r5 r6 r7 r8 => (x1 r r5 r6).trans (hF r r3 r2)) (fun k hk => (x2 k (by omega) (by omega)).trans (by rw [e9])) ?_ ?_ ?_⟩)
    · rw [x1 13 (by decide) (by decide), hF 13 (by decide) (by decide)]; exact h13
    · refine SvRel_keep (fun r r0 r1 => x1 r (by omega) (by omega)) (SvRel_cong (fun j j0 j1 => ?_) hSν)
      rw [x4 j j0 j1, e9, e3]; rfl
    · rw [x3, e9]
      have := HRel_keep (x1 76 (by decide) (by decide)) (fun r r0 r1 => x1 r (by omega) (by omega)) hHν
      rw [x1 403 (by decide) (by decide), e3]
      exact this
  · exact S_undo hg hu (fun _ => ⟨rfl, INV_th h⟩) (fun y => absurd y (by omega))
theorem P_back (hg : gx G = FX) {i : Int} (h : INV n μ) : Pr G Y_X10_back Y_X11_back [.inl i] n μ := by
  have hI := h
  obtain ⟨h1, hp, ⟨hs, h8, hS⟩, hN, h13, hH, hIm, hO, hT, hTR⟩ := hI
  unfold Pr
  refine m_X10_back hg (C_within hg (fun z => ⟨fun y => absurd rfl y, fun _ => ?_⟩) (fun z => ⟨fun _ => ?_, fun y => absurd y (by decide)⟩))
  · exact S_back hg (fun _ ν hq => ⟨rfl, INV_q h (fun _ _ _ => rfl) h13 hq⟩) (fun y => absurd y z) (fun y => absurd y z)
  · have hi := hIm.2 i z.1 z.2
    have hb := ms_not hIm.1 (k := i) ⟨z.1, by omega⟩
    rcases hi with ⟨g1, g2⟩ | ⟨g1, g2, g3⟩
    · refine ⟨fun y => absurd (hb.mpr g2) y, fun _ => ?_⟩
      exact S_back hg (fun y => absurd z y) (fun _ _ ν hq => ⟨rfl, INV_q h (fun _ _ _ => rfl) h13 hq⟩) (fun _ y => absurd g1 y)
    · refine ⟨fun _ => ?_, fun y => absurd g2 (hb.mp y)⟩
      have go : ∀ a : Int, a = 339 + 29 * i → St a 7 5 → CV G Y_X7_copyFrom [.inr 18, .inr a] n μ (fun n11 μ12 => CV G Y_X2_forgetAll [.inr 76] n11 μ12 (fun n14 μ15 => CI G Y_X11_back [.inr 399, .inl i] n14 μ15 (fun b n2 μ2 => μ15 18 2 = b ∧ INV n2 μ2))) := by
        intro a ea oa
        rw [← ea] at g3
        refine C_copyFrom hg St_18 oa (by omega) g3.1.1 g3.2.2 (fun ν hF hSν => C_forgetAll hg ?_)
        have e9 : (up ν 76 3 0) 399 = μ 399 := (up_ne (by decide)).trans (hF 399 (by decide))
        have e5 : (up ν 76 3 0) 405 = μ 405 := (up_ne (by decide)).trans (hF 405 (by decide))
        have e4 : (up ν 76 3 0) 404 = μ 404 := (up_ne (by decide)).trans (hF 404 (by decide))
        refine S_back hg (fun y => absurd z y) (fun _ y => absurd y (by rw [e5]; exact g1)) (fun _ _ ξ x1 x2 x3 x4 => ?_)
        have hrow : ∀ j, 0 ≤ j → j < 163 → ξ 402 j = rowF (μ 404) i j := fun j j0 j1 => by rw [x4 j j0 j1, e4]; rfl
        refine ⟨?_, INV_ph h (fun r r1 r2 r3 r4 r5 r6 r7 r8 => (x1 r r5 r6).trans ((up_ne r3).trans (hF r (by omega)))) (fun k hk => (x2 k (by omega) (by omega)).trans (by rw [e9])) ?_ ?_ ?_⟩
        · rw [up_ne (by decide), hSν.1, hrow 2 (by decide) (by decide)]
        · rw [x1 13 (by decide) (by decide), up_ne (by decide), hF 13 (by decide)]; exact h13
        · exact SvRel_keep (fun r r0 r1 => (x1 r (by omega) (by omega)).trans (up_ne (by omega))) (SvRel_cong hrow ⟨g3.1, g3.2.1, hSν⟩)
        · rw [x3]
          refine HRel_keep (μ := up ν 76 3 0) (x1 76 (by decide) (by decide)) (fun r r0 r1 => x1 r (by omega) (by omega)) (HRel_none ?_)
          rw [hF 76 (by decide)]
          exact hH.2.1
      refine m_X10_imageAt hg ⟨fun y => ⟨by decide, St_368, go 368 (by omega) St_368⟩, fun y => ⟨by decide, St_339, go 339 (by omega) St_339⟩⟩
theorem P_keep (hg : gx G = FX) {i : Int} (h : INV n μ) : Pr G Y_X10_keep Y_X11_keep [.inl i] n μ := by
  have hI := h
  obtain ⟨h1, hp, ⟨hs, h8, hS⟩, hN, h13, hH, hIm, hO, hT, hTR⟩ := hI
  unfold Pr
  refine m_X10_keep hg (C_within hg (fun z => ⟨fun y => absurd rfl y, fun _ => ?_⟩) (fun z => ⟨fun _ => ?_, fun y => absurd y (by decide)⟩))
  · exact S_keep hg (fun _ ν hq => ⟨rfl, INV_q h (fun _ _ _ => rfl) h13 hq⟩) (fun y => absurd y z)
  · have go : ∀ a : Int, a = 339 + 29 * i → St a 7 5 → CV G Y_X7_copyFrom [.inr a, .inr 18] n μ (fun n10 μ11 => CI G Y_X11_keep [.inr 399, .inl i] n10 (up μ11 0 11 (iOr (μ11 0 11) (iShl 1 i))) (fun b n2 μ2 => (up μ11 0 11 (iOr (μ11 0 11) (iShl 1 i))) 18 2 = b ∧ INV n2 μ2)) := by
      intro a ea oa
      refine C_copyFrom hg oa St_18 (by omega) hs.1 hS (fun ν hF hSν => ?_)
      have r0 : ν 0 = μ 0 := hF 0 (by omega)
      have g : ∀ r : Int, r ≠ 0 → ¬ (a ≤ r ∧ r < a + 29) → (up ν 0 11 (iOr (ν 0 11) (iShl 1 i))) r = μ r := fun r r1 r2 => (up_ne r1).trans (hF r r2)
      have e9 := g 399 (by decide) (by omega)
      have e2 := g 402 (by decide) (by omega)
      have e5 := g 405 (by decide) (by omega)
      have e4 := g 404 (by decide) (by omega)
      refine S_keep hg (fun y => absurd z y) (fun _ ξ x1 x2 x3 x4 x5 => ?_)
      have f : ∀ k, k ≠ 0 → ξ 399 k = μ 399 k := fun k hk => (x2 k hk).trans (by rw [e9])
      have g' : ∀ r : Int, r ≠ 0 → ¬ (a ≤ r ∧ r < a + 29) → r ≠ 399 → r ≠ 404 → r ≠ 405 → ξ r = μ r := fun r r1 r2 r3 r4 r5 => (x1 r r3 r4 r5).trans (g r r1 r2)
      have y0 : ξ 400 = μ 400 := g' 400 (by decide) (by omega) (by decide) (by decide) (by decide)
      have y2 : ξ 402 = μ 402 := g' 402 (by decide) (by omega) (by decide) (by decide) (by decide)
      have y3 : ξ 403 = μ 403 := g' 403 (by decide) (by omega) (by decide) (by decide) (by decide)
      have y10 : ξ 410 = μ 410 := g' 410 (by decide) (by omega) (by decide) (by decide) (by decide)
      have y11 : ξ 0 11 = iOr (μ 0 11) (iShl 1 i) := by rw [x1 0 (by decide) (by decide) (by decide), up_self, r0]
      refine ⟨by rw [g 18 (by decide) (by omega), e2]; exact hS.1, ?_⟩
      unfold INV
      rw [f 1 (by decide), f 2 (by decide), f 8 (by decide), f 17 (by decide), y0, y2, y3, y10]
      refine ⟨h1, hp, SvRel_keep (fun r r0 r1 => g' r (by omega) (by omega) (by omega) (by omega) (by omega)) ⟨hs, h8, hS⟩, NRel_keep (Nat.le_refl _) (g' 7 (by decide) (by omega) (by decide) (by decide) (by decide)) (g' (7 + 2) (by decide) (by omega) (by decide) (by decide) (by decide)) (fun p hp => g' p (by omega) (by omega) (by omega) (by omega) (by omega)) hN, ?_, HRel_keep (g' 76 (by decide) (by omega) (by decide) (by decide) (by decide)) (fun r r0 r1 => g' r (by omega) (by omega) (by omega) (by omega) (by omega)) hH, ⟨?_, fun k k0 k1 => ?_⟩, ObsR_keep ?_ ?_ (f 13 (by decide)) ?_ ?_ ?_ hO, hT, ?_⟩
      · rw [g' 13 (by decide) (by omega) (by decide) (by decide) (by decide)]; exact h13
      · rw [y11]; exact iOr_st hIm.1 (shl_st ⟨z.1, by omega⟩)
      · rw [y11, ms_or hIm.1 (shl_st ⟨z.1, by omega⟩) ⟨k0, by omega⟩, ms_shl ⟨z.1, by omega⟩ ⟨k0, by omega⟩, x3 k]
        by_cases ek : k = i
        · rw [if_pos ek]
          refine Or.inr ⟨by decide, Or.inr ek, ?_⟩
          rw [ek, ← ea]
          exact SvRel_keep (fun r r0 r1 => (x1 r (by omega) (by omega) (by omega)).trans (up_ne (by omega))) (SvRel_cong (s := μ 402) (fun j j0 j1 => by show ξ 404 (163 * i + j) = _; rw [x4 j j0 j1, e2]) ⟨hs, h8, hSν⟩)
        · rw [if_neg ek, e5]
          rcases hIm.2 k k0 k1 with ⟨q1, q2⟩ | ⟨q1, q2, q3⟩
          · exact Or.inl ⟨q1, fun u => u.elim q2 ek⟩
          · refine Or.inr ⟨q1, Or.inl q2, SvRel_keep (fun r r0 r1 => g' r (by omega) (by omega) (by omega) (by omega) (by omega)) (SvRel_cong (fun j j0 j1 => ?_) q3)⟩
            show ξ 404 (163 * k + j) = μ 404 (163 * k + j)
            rw [x5 _ (by omega), e4]
      · rw [g' 397 (by decide) (by omega) (by decide) (by decide) (by decide)]
      · exact g' (397 + 1) (by decide) (by omega) (by decide) (by decide) (by decide)
      · exact g' 407 (by decide) (by omega) (by decide) (by decide) (by decide)
      · exact g' 408 (by decide) (by omega) (by decide) (by decide) (by decide)
      · exact g' 409 (by decide) (by omega) (by decide) (by decide) (by decide)
      · unfold TxR
        rw [g' 1 (by decide) (by omega) (by decide) (by decide) (by decide), g' 2 (by decide) (by omega) (by decide) (by decide) (by decide)]
        exact hTR
    refine m_X10_imageAt hg ⟨fun y => ⟨by decide, St_368, go 368 (by omega) St_368⟩, fun y => ⟨by decide, St_339, go 339 (by omega) St_339⟩⟩
end More
