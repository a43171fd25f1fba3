-- class and model side by side: the text, what was seen, the plan
section TextP
variable {G : GT} {n : Nat} {μ : Mem}
/-- one cell more or less of the text or of what was seen -/
theorem INV_part {n : Nat} {μ ξ : Mem} (h : INV n μ) (g : ∀ r : Int, r ≠ 1 → r ≠ 2 → r ≠ 397 → r ≠ 397 + 1 → r ≠ 399 → r ≠ 407 → r ≠ 408 → r ≠ 409 → r ≠ 410 → ξ r = μ r) (f : ∀ k, k = 1 ∨ k = 2 ∨ k = 8 → ξ 399 k = μ 399 k)
    (hO : ObsR (μ 399 1) ξ) (hT : TxP (ξ 399 17) (ξ 410)) (hR : TxR ξ (ξ 399 17) (ξ 410)) : INV n ξ := by
  obtain ⟨h1, h2, h3, h4, h5, h6, h7, h8, h9, h10⟩ := h
  have x0 : ξ 400 = μ 400 := g 400 (by decide) (by decide) (by decide) (by decide) (by decide) (by decide) (by decide) (by decide) (by decide)
  have x2 : ξ 402 = μ 402 := g 402 (by decide) (by decide) (by decide) (by decide) (by decide) (by decide) (by decide) (by decide) (by decide)
  have x3 : ξ 403 = μ 403 := g 403 (by decide) (by decide) (by decide) (by decide) (by decide) (by decide) (by decide) (by decide) (by decide)
  unfold INV
  rw [f 1 (by omega), f 2 (by omega), f 8 (by omega), x0, x2, x3]
  refine ⟨h1, h2, SvRel_keep (fun r r0 r1 => g r (by omega) (by omega) (by omega) (by omega) (by omega) (by omega) (by omega) (by omega) (by omega)) h3, NRel_keep (Nat.le_refl _) (g 7 (by decide) (by decide) (by decide) (by decide) (by decide) (by decide) (by decide) (by decide) (by decide)) (g (7 + 2) (by decide) (by decide) (by decide) (by decide) (by decide) (by decide) (by decide) (by decide) (by decide)) (fun p hp => g p (by omega) (by omega) (by omega) (by omega) (by omega) (by omega) (by omega) (by omega) (by omega)) h4, ?_, HRel_keep (g 76 (by decide) (by decide) (by decide) (by decide) (by decide) (by decide) (by decide) (by decide) (by decide)) (fun r r0 r1 => g r (by omega) (by omega) (by omega) (by omega) (by omega) (by omega) (by omega) (by omega) (by omega)) h6, ImgR_keep ?_ ?_ ?_ (fun r r0 r1 => g r (by omega) (by omega) (by omega) (by omega) (by omega) (by omega) (by omega) (by omega) (by omega)) h7, hO, hT, hR⟩
  · rw [g 13 (by decide) (by decide) (by decide) (by decide) (by decide) (by decide) (by decide) (by decide) (by decide)]; exact h5
  · rw [g 0 (by decide) (by decide) (by decide) (by decide) (by decide) (by decide) (by decide) (by decide) (by decide)]
  · exact g 404 (by decide) (by decide) (by decide) (by decide) (by decide) (by decide) (by decide) (by decide) (by decide)
  · exact g 405 (by decide) (by decide) (by decide) (by decide) (by decide) (by decide) (by decide) (by decide) (by decide)
theorem P_type (hg : gx G = FX) {v : Int} (h : INV n μ) : Pr G Y_X10_type Y_X11_type [.inl v] n μ := by
  have hI := h
  obtain ⟨h1, hp, ⟨hs, h8, hS⟩, hN, h13, hH, hIm, hO, hT, hTR⟩ := hI
  have h17 : 0 ≤ μ 399 17 ∧ μ 399 17 ≤ 150 := ⟨hT.1, hT.2.1⟩
  unfold Pr
  refine m_X10_type hg (C_within hg (fun z => ⟨fun y => absurd rfl y, fun _ => ?_⟩) (fun z => ⟨fun _ => m_X9_isFull hg ?_, fun y => absurd y (by decide)⟩))
  · exact S_type hg h17 (fun _ ν hq => ⟨rfl, INV_q h (fun _ _ _ => rfl) h13 hq⟩) (fun y => absurd y z) (fun y => absurd y z)
  · rw [hTR.1]
    refine ⟨fun y => ⟨fun _ => m_X9_append hg ?_, fun x => absurd rfl x⟩, fun y => ⟨fun x => absurd x (by decide), fun _ => ?_⟩⟩
    · rw [hTR.1]
      have e1 : (up μ 2 (μ 399 17) v) 1 1 = μ 399 17 := by rw [up_ne (by decide)]; exact hTR.1
      rw [e1, up_self]
      refine ⟨fun x => absurd x (by omega), fun _ => ⟨fun x => absurd x (by omega), fun _ => ⟨⟨h17.1, y⟩, by unfold inR; omega, ?_⟩⟩⟩
      have e9 : (up (up μ 2 (μ 399 17) v) 1 1 (μ 399 17 + 1)) 399 = μ 399 := (up_ne (by decide)).trans (up_ne (by decide))
      refine S_type hg (by rw [e9]; exact h17) (fun x => absurd z x) (fun _ x => absurd x (by rw [e9]; omega)) (fun _ _ => ⟨by rw [e9], ?_⟩)
      rw [e9]
      refine INV_part h (fun r r1 r2 r3 r4 r5 r6 r7 r8 r9 => ?_) (fun k hk => ?_) ?_ ?_ ?_
      · rw [up_ne r5, up_ne r9, up_ne r5, up_ne r1, up_ne r2]
      · rw [up_oth (by omega), up_ne (by decide), up_oth (by omega), e9]
      · refine ObsR_keep ?_ ?_ ?_ ?_ ?_ ?_ hO
        · rw [up_ne (by decide), up_ne (by decide), up_ne (by decide), up_ne (by decide), up_ne (by decide)]
        · rw [up_ne (by decide), up_ne (by decide), up_ne (by decide), up_ne (by decide), up_ne (by decide)]
        · rw [up_oth (by decide), up_ne (by decide), up_oth (by decide), e9]
        · rw [up_ne (by decide), up_ne (by decide), up_ne (by decide), up_ne (by decide), up_ne (by decide)]
        · rw [up_ne (by decide), up_ne (by decide), up_ne (by decide), up_ne (by decide), up_ne (by decide)]
        · rw [up_ne (by decide), up_ne (by decide), up_ne (by decide), up_ne (by decide), up_ne (by decide)]
      · rw [up_self, up_ne (by decide)]
        refine ⟨by omega, by omega, fun k k0 k1 => ?_⟩
        by_cases ek : k = μ 399 17
        · rw [ek, up_self]; omega
        · rw [up_oth ek, up_ne (by decide), up_ne (by decide), up_ne (by decide)]
          exact hT.2.2 k k0 (by omega)
      · rw [up_self, up_ne (show (410 : Int) ≠ 399 by decide)]
        refine ⟨by rw [up_ne (by decide), up_ne (by decide), up_ne (by decide), up_self], fun k k0 k1 => ?_⟩
        rw [up_ne (by decide), up_ne (by decide), up_ne (by decide), up_ne (by decide)]
        by_cases ek : k = μ 399 17
        · rw [ek, up_self, up_self]
        · rw [up_oth ek, up_oth ek, up_ne (by decide), up_ne (by decide), up_ne (by decide)]
          exact hTR.2 k k0 (by omega)
    · exact S_type hg h17 (fun x => absurd z x) (fun _ _ ν hq => ⟨rfl, INV_q h (fun _ _ _ => rfl) h13 hq⟩) (fun _ x => absurd x y)
theorem P_clear (hg : gx G = FX) (h : INV n μ) : Pr G Y_X10_clear Y_X11_clear [] n μ := by
  have hI := h
  obtain ⟨h1, hp, ⟨hs, h8, hS⟩, hN, h13, hH, hIm, hO, hT, hTR⟩ := hI
  unfold Pr
  refine m_X10_clear hg (m_X9_empty hg (S_clear hg ⟨?_, ?_⟩))
  · rw [up_ne (by decide)]; exact hTR.1
  · refine INV_part h (fun r r1 r2 r3 r4 r5 r6 r7 r8 r9 => ?_) (fun k hk => ?_) ?_ ?_ ?_
    · rw [up_ne r5, up_ne r5, up_ne r1]
    · rw [up_oth (by omega), up_oth (by omega), up_ne (by decide)]
    · refine ObsR_keep ?_ ?_ ?_ ?_ ?_ ?_ hO
      · rw [up_ne (by decide), up_ne (by decide), up_ne (by decide)]
      · rw [up_ne (by decide), up_ne (by decide), up_ne (by decide)]
      · rw [up_oth (by decide), up_oth (by decide), up_ne (by decide)]
      · rw [up_ne (by decide), up_ne (by decide), up_ne (by decide)]
      · rw [up_ne (by decide), up_ne (by decide), up_ne (by decide)]
      · rw [up_ne (by decide), up_ne (by decide), up_ne (by decide)]
    · rw [up_self]
      exact ⟨by decide, by decide, fun k k0 k1 => by omega⟩
    · rw [up_self]
      exact ⟨by rw [up_ne (by decide), up_ne (by decide), up_self], fun k k0 k1 => by omega⟩
theorem P_forget (hg : gx G = FX) (h : INV n μ) : Pr G Y_X10_forget Y_X11_forget [] n μ := by
  have hI := h
  obtain ⟨h1, hp, ⟨hs, h8, hS⟩, hN, h13, hH, hIm, hO, hT, hTR⟩ := hI
  unfold Pr
  refine m_X10_forget hg (T_cut0 hg St_397 (S_forget hg ⟨?_, ?_⟩))
  · rw [up_ne (by decide)]; exact hO.1
  · refine INV_part h (fun r r1 r2 r3 r4 r5 r6 r7 r8 r9 => ?_) (fun k hk => ?_) ?_ ?_ ?_
    · rw [up_ne r5, up_ne r5, up_ne r3]
    · rw [up_oth (by omega), up_oth (by omega), up_ne (by decide)]
    · refine ⟨?_, ?_, fun k k0 k1 => ?_⟩
      · rw [up_ne (by decide), up_ne (by decide), up_self, up_self]
      · rw [up_self]; decide
      · rw [up_self] at k1; omega
    · rw [up_oth (by decide), up_oth (by decide), up_ne (by decide), up_ne (by decide), up_ne (by decide), up_ne (by decide)]
      exact hT
    · rw [up_oth (by decide), up_oth (by decide), up_ne (by decide), up_ne (show (410 : Int) ≠ 399 by decide), up_ne (show (410 : Int) ≠ 399 by decide), up_ne (show (410 : Int) ≠ 397 by decide)]
      refine ⟨by rw [up_ne (by decide), up_ne (by decide), up_ne (by decide)]; exact hTR.1, fun k k0 k1 => ?_⟩
      rw [up_ne (by decide), up_ne (by decide), up_ne (by decide)]
      exact hTR.2 k k0 k1
theorem P_sees (hg : gx G = FX) {v g a : Int} (h : INV n μ) : Pr G Y_X10_sees Y_X11_sees [.inl v, .inl g, .inl a] n μ := by
  have hM := h.mi
  have hI := h
  obtain ⟨h1, hp, ⟨hs, h8, hS⟩, hN, h13, hH, hIm, hO, hT, hTR⟩ := hI
  have o2 := hO.2.1
  have bad : ¬ ((0 ≤ v ∧ v < μ 399 1) ∧ (0 ≤ g ∧ g < μ 399 1) ∧ v ≠ g ∧ 0 ≤ a ∧ a ≤ 121) → CI G Y_X11_sees [.inr 399, .inl v, .inl g, .inl a] n μ (fun b n2 μ2 => -1 = b ∧ INV n2 μ2) := fun hno =>
    S_sees hg hM o2 (fun _ ν hq => ⟨rfl, INV_q h (fun _ _ _ => rfl) h13 hq⟩) (fun a b c d => absurd ⟨a, b, c, d⟩ hno) (fun a b c d => absurd ⟨a, b, c, d⟩ hno)
  unfold Pr
  refine m_X10_sees hg (C_hasNode hg hN (fun z => ⟨fun _ => bad (fun y => z y.1), fun y => absurd rfl y⟩) (fun z => ⟨fun y => absurd y (by decide), fun _ => C_hasNode hg hN (fun y => ⟨fun _ => bad (fun x => y x.2.1), fun x => absurd rfl x⟩) (fun y => ⟨fun x => absurd x (by decide), fun _ => ⟨fun x => bad (fun u => u.2.2.1 x), fun x => C_within hg (fun u => ⟨fun t => absurd rfl t, fun _ => bad (fun t => u t.2.2.2)⟩) (fun u => ⟨fun _ => ?_, fun t => absurd t (by decide)⟩)⟩⟩)⟩))
  rw [hO.1]
  refine ⟨fun t => ?_, fun t => ?_⟩
  · refine T_addRow hg Tb_397 (by rw [hO.1]; exact o2.1) (by rw [hO.1]; exact t) ?_
    rw [hO.1]
    have r1 : (up μ 397 2 (μ 399 13 + 1)) 397 2 = μ 399 13 + 1 := up_self _ _ _ _
    refine T_put hg Tb_397 (by rw [r1]; omega) (by rw [r1]; omega) (by decide) ?_
    have r2 : ∀ k x, (up (up μ 397 2 (μ 399 13 + 1)) (397 + 1) k x) 397 2 = μ 399 13 + 1 := fun k x => by rw [up_ne (by decide)]; exact r1
    refine T_put hg Tb_397 (by rw [r2]; omega) (by rw [r2]; omega) (by decide) ?_
    have r3 : ∀ k x k' x', (up (up (up μ 397 2 (μ 399 13 + 1)) (397 + 1) k x) (397 + 1) k' x') 397 2 = μ 399 13 + 1 := fun k x k' x' => by rw [up_ne (by decide)]; exact r2 k x
    refine T_put hg Tb_397 (by rw [r3]; omega) (by rw [r3]; omega) (by decide) ?_
    have hfr : ∀ r : Int, r ≠ 397 → r ≠ 397 + 1 → (up (up (up (up μ 397 2 (μ 399 13 + 1)) (397 + 1) (3 * μ 399 13 + 0) v) (397 + 1) (3 * μ 399 13 + 1) g) (397 + 1) (3 * μ 399 13 + 2) a) r = μ r := fun r q1 q2 => by rw [up_ne q2, up_ne q2, up_ne q2, up_ne q1]
    have c0 : (up (up (up (up μ 397 2 (μ 399 13 + 1)) (397 + 1) (3 * μ 399 13 + 0) v) (397 + 1) (3 * μ 399 13 + 1) g) (397 + 1) (3 * μ 399 13 + 2) a) (397 + 1) (3 * μ 399 13 + 0) = v := by rw [up_oth (by omega), up_oth (by omega), up_self]
    have c1 : (up (up (up (up μ 397 2 (μ 399 13 + 1)) (397 + 1) (3 * μ 399 13 + 0) v) (397 + 1) (3 * μ 399 13 + 1) g) (397 + 1) (3 * μ 399 13 + 2) a) (397 + 1) (3 * μ 399 13 + 1) = g := by rw [up_oth (by omega), up_self]
    have c2 : (up (up (up (up μ 397 2 (μ 399 13 + 1)) (397 + 1) (3 * μ 399 13 + 0) v) (397 + 1) (3 * μ 399 13 + 1) g) (397 + 1) (3 * μ 399 13 + 2) a) (397 + 1) (3 * μ 399 13 + 2) = a := up_self _ _ _ _
    have co : ∀ k : Int, k < 3 * μ 399 13 → (up (up (up (up μ 397 2 (μ 399 13 + 1)) (397 + 1) (3 * μ 399 13 + 0) v) (397 + 1) (3 * μ 399 13 + 1) g) (397 + 1) (3 * μ 399 13 + 2) a) (397 + 1) k = μ (397 + 1) k := fun k hk => by rw [up_oth (by omega), up_oth (by omega), up_oth (by omega), up_ne (by decide)]
    have cr : (up (up (up (up μ 397 2 (μ 399 13 + 1)) (397 + 1) (3 * μ 399 13 + 0) v) (397 + 1) (3 * μ 399 13 + 1) g) (397 + 1) (3 * μ 399 13 + 2) a) 397 2 = μ 399 13 + 1 := by rw [up_ne (by decide)]; exact r3 _ _ _ _
    generalize (up (up (up (up μ 397 2 (μ 399 13 + 1)) (397 + 1) (3 * μ 399 13 + 0) v) (397 + 1) (3 * μ 399 13 + 1) g) (397 + 1) (3 * μ 399 13 + 2) a) = ν at hfr c0 c1 c2 co cr ⊢
    have e9 := hfr 399 (by decide) (by decide)
    have e0 := hfr 400 (by decide) (by decide)
    have e2 := hfr 402 (by decide) (by decide)
    have hMν : MI ν := by unfold MI; rw [e9, e0, e2]; exact hM
    refine S_sees hg hMν (by rw [e9]; exact o2) (fun q => by rw [e9] at q; exact absurd ⟨z, y, x, u⟩ q) (fun _ _ _ _ q => absurd q (by rw [e9]; omega)) (fun _ _ _ _ _ => ⟨by rw [cr, e9], ?_⟩)
    rw [e9]
    refine INV_part h (fun r q1 q2 q3 q4 q5 q6 q7 q8 q9 => ?_) (fun k hk => ?_) ?_ ?_ ?_
    · rw [up_ne q5, up_ne q8, up_ne q7, up_ne q6, up_ne q5]; exact hfr r q3 q4
    · rw [up_oth (by omega), up_ne (by decide), up_ne (by decide), up_ne (by decide), up_oth (by omega), e9]
    · refine ⟨?_, ?_, fun k k0 k1 => ?_⟩
      · rw [up_ne (by decide), up_ne (by decide), up_ne (by decide), up_ne (by decide), up_ne (by decide), up_self]; exact cr
      · rw [up_self]; omega
      · rw [up_self] at k1
        rw [up_ne (show (397 : Int) + 1 ≠ 399 by decide), up_ne (show (397 : Int) + 1 ≠ 409 by decide), up_ne (show (397 : Int) + 1 ≠ 408 by decide), up_ne (show (397 : Int) + 1 ≠ 407 by decide), up_ne (show (397 : Int) + 1 ≠ 399 by decide)]
        rw [up_ne (show (407 : Int) ≠ 399 by decide), up_ne (show (407 : Int) ≠ 409 by decide), up_ne (show (407 : Int) ≠ 408 by decide), up_ne (show (408 : Int) ≠ 399 by decide), up_ne (show (408 : Int) ≠ 409 by decide), up_ne (show (409 : Int) ≠ 399 by decide)]
        by_cases ek : k = μ 399 13
        · rw [ek, up_self, up_self, up_self]
          exact ⟨⟨c0, c1, c2⟩, z, y, x, u⟩
        · rw [up_oth ek, up_oth ek, up_oth ek, up_ne (show (407 : Int) ≠ 399 by decide), up_ne (show (408 : Int) ≠ 407 by decide), up_ne (show (408 : Int) ≠ 399 by decide), up_ne (show (409 : Int) ≠ 408 by decide), up_ne (show (409 : Int) ≠ 407 by decide), up_ne (show (409 : Int) ≠ 399 by decide), hfr 407 (by decide) (by decide), hfr 408 (by decide) (by decide), hfr 409 (by decide) (by decide), co _ (by omega), co _ (by omega), co _ (by omega)]
          exact hO.2.2 k k0 (by omega)
    · rw [up_oth (by decide), up_ne (by decide), up_ne (by decide), up_ne (by decide), up_oth (by decide), e9, up_ne (by decide), up_ne (by decide), up_ne (by decide), up_ne (by decide), up_ne (by decide), hfr 410 (by decide) (by decide)]
      exact hT
    · have e17 : (up (up (up (up (up ν 399 0 0) 407 (μ 399 13) v) 408 (μ 399 13) g) 409 (μ 399 13) a) 399 13 (μ 399 13 + 1)) 399 17 = μ 399 17 := by rw [up_oth (by decide), up_ne (by decide), up_ne (by decide), up_ne (by decide), up_oth (by decide), e9]
      have e10 : (up (up (up (up (up ν 399 0 0) 407 (μ 399 13) v) 408 (μ 399 13) g) 409 (μ 399 13) a) 399 13 (μ 399 13 + 1)) 410 = μ 410 := by rw [up_ne (by decide), up_ne (by decide), up_ne (by decide), up_ne (by decide), up_ne (by decide), hfr 410 (by decide) (by decide)]
      have e1 : (up (up (up (up (up ν 399 0 0) 407 (μ 399 13) v) 408 (μ 399 13) g) 409 (μ 399 13) a) 399 13 (μ 399 13 + 1)) 1 = μ 1 := by rw [up_ne (by decide), up_ne (by decide), up_ne (by decide), up_ne (by decide), up_ne (by decide), hfr 1 (by decide) (by decide)]
      have e2' : (up (up (up (up (up ν 399 0 0) 407 (μ 399 13) v) 408 (μ 399 13) g) 409 (μ 399 13) a) 399 13 (μ 399 13 + 1)) 2 = μ 2 := by rw [up_ne (by decide), up_ne (by decide), up_ne (by decide), up_ne (by decide), up_ne (by decide), hfr 2 (by decide) (by decide)]
      unfold TxR
      rw [e17, e10, e1, e2']
      exact hTR
  · exact S_sees hg hM o2 (fun q => absurd ⟨z, y, x, u⟩ q) (fun _ _ _ _ _ ν hq => ⟨rfl, INV_q h (fun _ _ _ => rfl) h13 hq⟩) (fun _ _ _ _ q => absurd q t)
theorem P_plan (hg : gx G = FX) (h : INV n μ) : Pr G Y_X10_plan Y_X11_plan [] n μ := by
  have hI := h
  obtain ⟨h1, hp, ⟨hs, h8, hS⟩, hN, h13, hH, hIm, hO, hT, hTR⟩ := hI
  unfold Pr
  refine m_X10_plan hg ⟨⟨by decide, by decide⟩, C_readPlan hg (rd0 := μ 401) h1 hT hTR (fun f hf ht n' ν hn hF => ⟨fun _ => ⟨⟨by decide, by decide⟩, ?_⟩, fun z => absurd (by omega) z⟩) (fun r ht hr n' ν hn hF hNν => ⟨fun z => absurd z (by omega), fun _ => ⟨⟨by decide, by decide⟩, ?_⟩⟩)⟩
  · -- a fault
    have e9 := hF 399 (by decide) (by decide) (by decide) (by omega)
    have e1 := hF 401 (by decide) (by decide) (by decide) (by omega)
    have e10 := hF 410 (by decide) (by decide) (by decide) (by omega)
    refine S_plan hg hT (by rw [e9]) e10 (fun q hq ξ hD => ?_) (fun r hr => ?_)
    · rw [e1, ht] at hq
      cases hq
      refine ⟨rfl, INV_frame h hn (fun r r1 r2 r3 r4 r5 r6 r7 r8 r9 r10 => (hD.1 r r6 r7).trans (hF r r3 r4 r5 r10)) (fun k hk => (hD.2 k (by omega) (by omega) (by omega) (by omega) (by omega) (by omega)).trans (by rw [e9])) ?_⟩
      rw [hD.1 13 (by decide) (by decide), hF 13 (by decide) (by decide) (by decide) (by omega)]
      exact h13
    · rw [e1, ht] at hr
      cases hr
  · -- it is read
    have hPW := runP_PW ((μ 399 17).toNat + 1) (L := μ 399 17) (x := μ 410) (items := 0) (nd := 2) (cn := 0) (p := skP (μ 399 17) (μ 410) 0) (rd := μ 401) (r := r) ⟨by decide, by decide, by decide, by decide, fun c c0 c1 => by omega⟩ (by decide) (fun _ => rfl) ht
    have h8' := hPW.2.2.2.1
    have h0' := hPW.2.2.1
    refine C_ncopy hg ⟨h0', h8'⟩ hNν (fun ν1 hF1 hN1 => ⟨⟨by decide, by decide⟩, m_X9_empty hg ⟨⟨by decide, by decide⟩, ?_⟩⟩)
    refine C_reset hg (of := r.2.2.2) (s := fun _ => 0) St_18 rfl rfl rfl (fun ν2 hF2 hS2 => ⟨⟨by decide, by decide⟩, C_forgetAll hg ⟨⟨by decide, by decide⟩, T_cut0 hg St_397 ⟨⟨by decide, by decide⟩, ?_⟩⟩⟩)
    -- where things stand now
    have gz : ∀ q : Int, q ≠ 1 → q ≠ 7 → q ≠ 7 + 2 → ¬ (18 ≤ q ∧ q < 47) → q ≠ 76 → q ≠ 0 → q ≠ 397 → (up (up (up ν2 76 3 0) 0 11 0) 397 2 0) q = ν q := fun q q1 q2 q3 q4 q5 q6 q7 => by
      rw [up_ne q7, up_ne q6, up_ne q5, hF2 q (by omega), up_ne q1, hF1 q q2 q3]
    have z7 : (up (up (up ν2 76 3 0) 0 11 0) 397 2 0) 7 = ν1 7 := by rw [up_ne (by decide), up_ne (by decide), up_ne (by decide), hF2 7 (by decide), up_ne (by decide)]
    have z72 : (up (up (up ν2 76 3 0) 0 11 0) 397 2 0) (7 + 2) = ν1 (7 + 2) := by rw [up_ne (by decide), up_ne (by decide), up_ne (by decide), hF2 (7 + 2) (by decide), up_ne (by decide)]
    have zc : ∀ p : Int, p = 5 ∨ p = 8 ∨ (415 ≤ p ∧ p < n') → (up (up (up ν2 76 3 0) 0 11 0) 397 2 0) p = ν1 p := fun p hp => by rw [up_ne (by omega), up_ne (by omega), up_ne (by omega), hF2 p (by omega), up_ne (by omega)]
    have z18 : (up (up (up ν2 76 3 0) 0 11 0) 397 2 0) 18 = ν2 18 := by rw [up_ne (by decide), up_ne (by decide), up_ne (by decide)]
    have z76 : (up (up (up ν2 76 3 0) 0 11 0) 397 2 0) 76 3 = 0 := by rw [up_ne (by decide), up_ne (by decide), up_self]
    have z762 : (up (up (up ν2 76 3 0) 0 11 0) 397 2 0) 76 2 = μ 76 2 := by rw [up_ne (by decide), up_ne (by decide), up_oth (by decide), hF2 76 (by decide), up_ne (by decide), hF1 76 (by decide) (by decide), hF 76 (by decide) (by decide) (by decide) (by omega)]
    have z011 : (up (up (up ν2 76 3 0) 0 11 0) 397 2 0) 0 11 = 0 := by rw [up_ne (by decide), up_self]
    have z397 : (up (up (up ν2 76 3 0) 0 11 0) 397 2 0) 397 2 = 0 := up_self _ _ _ _
    have z11 : (up (up (up ν2 76 3 0) 0 11 0) 397 2 0) 1 1 = 0 := by rw [up_ne (by decide), up_ne (by decide), up_ne (by decide), hF2 1 (by decide), up_self]
    generalize (up (up (up ν2 76 3 0) 0 11 0) 397 2 0) = ζ at gz z7 z72 zc z18 z76 z762 z011 z397 z11 ⊢
    have e9 : ζ 399 = μ 399 := (gz 399 (by decide) (by decide) (by decide) (by decide) (by decide) (by decide) (by decide)).trans (hF 399 (by decide) (by decide) (by decide) (by omega))
    have e1 : ζ 401 = μ 401 := (gz 401 (by decide) (by decide) (by decide) (by decide) (by decide) (by decide) (by decide)).trans (hF 401 (by decide) (by decide) (by decide) (by omega))
    have e10 : ζ 410 = μ 410 := (gz 410 (by decide) (by decide) (by decide) (by decide) (by decide) (by decide) (by decide)).trans (hF 410 (by decide) (by decide) (by decide) (by omega))
    refine S_plan hg hT (by rw [e9]) e10 (fun q hq => by rw [e1, ht] at hq; cases hq) (fun r' hr' ξ hP => ?_)
    rw [e1, ht] at hr'
    cases hr'
    obtain ⟨p0, p1, p2, p3, p4, p5, p6, p7, p8, p9, p10, p11⟩ := hP
    refine ⟨rfl, ?_⟩
    have hcf : ∀ c k, 0 ≤ c → c < r.2.2.1 → 0 ≤ k → k < 6 → cf (ξ 400) c k = cf r.2.2.2 c k := fun c k c0 c1 k0 k1 => p6 (6 * c + k) (by omega) (by omega)
    have hpw : PW r.2.1 r.2.2.1 (ξ 400) := by
      refine ⟨hPW.1, hPW.2.1, h0', h8', fun c c0 c1 => ?_⟩
      rw [hcf c 0 c0 c1 (by decide) (by decide), hcf c 1 c0 c1 (by decide) (by decide), hcf c 2 c0 c1 (by decide) (by decide), hcf c 3 c0 c1 (by decide) (by decide), hcf c 4 c0 c1 (by decide) (by decide), hcf c 5 c0 c1 (by decide) (by decide)]
      exact hPW.2.2.2.2 c c0 c1
    have gx' : ∀ q : Int, q ≠ 399 → q ≠ 400 → q ≠ 401 → q ≠ 402 → q ≠ 405 → ξ q = ζ q := p0
    have x18 : ξ 18 = ν2 18 := (gx' 18 (by decide) (by decide) (by decide) (by decide) (by decide)).trans z18
    unfold INV
    rw [p1, p2, p3, p5]
    refine ⟨by omega, hpw, ⟨⟨⟨by omega, by omega, by omega, by omega, fun b b0 b1 => by omega⟩, fun b b0 b1 => by omega, fun b o c t b0 b1 => by omega⟩, by rw [p8]; exact ⟨by decide, by decide⟩, ⟨?_, ?_, ?_, fun b b0 b1 => by omega⟩⟩, ?_, ?_, ⟨?_, ?_, ⟨by decide, by decide⟩, fun k k0 k1 => by omega⟩, ⟨?_, fun i i0 i1 => Or.inl ⟨?_, ?_⟩⟩, ⟨?_, ?_, fun k k0 k1 => ?_⟩, ⟨by decide, by decide, fun k k0 k1 => by omega⟩, ⟨?_, fun k k0 k1 => by omega⟩⟩
    · rw [x18, hS2.1, p9]
    · rw [x18, hS2.2.1, p7]
    · rw [x18, hS2.2.2.1, p8]
    · obtain ⟨a, b, c⟩ := hN1
      have x7 : ξ 7 = ν1 7 := (gx' 7 (by decide) (by decide) (by decide) (by decide) (by decide)).trans z7
      have x72 : ξ (7 + 2) = ν1 (7 + 2) := (gx' (7 + 2) (by decide) (by decide) (by decide) (by decide) (by decide)).trans z72
      refine ⟨by rw [x7]; exact a, by rw [x7]; exact b, fun i i0 i1 => ?_⟩
      have hc := c i i0 i1
      have hpl := Co_place hc.1
      have hl := hc.1.2.1
      rw [x72]
      refine ⟨hc.1, fun k k0 k1 => ?_⟩
      rw [hcf i k i0 i1 k0 k1, gx' _ (by omega) (by omega) (by omega) (by omega) (by omega), zc _ (by omega)]
      exact hc.2 k k0 k1
    · rw [gx' 13 (by decide) (by decide) (by decide) (by decide) (by decide), gz 13 (by decide) (by decide) (by decide) (by decide) (by decide) (by decide) (by decide), hF 13 (by decide) (by decide) (by decide) (by omega)]
      exact h13
    · rw [gx' 76 (by decide) (by decide) (by decide) (by decide) (by decide)]; exact z76
    · rw [gx' 76 (by decide) (by decide) (by decide) (by decide) (by decide), z762]; exact hH.2.1
    · rw [gx' 0 (by decide) (by decide) (by decide) (by decide) (by decide), z011]; exact ⟨by decide, by decide⟩
    · by_cases ei : i = 0
      · rw [ei]; exact p10
      · rw [show i = 1 by omega]; exact p11
    · rw [gx' 0 (by decide) (by decide) (by decide) (by decide) (by decide), z011]
      exact ms_0 ⟨i0, by omega⟩
    · rw [gx' 397 (by decide) (by decide) (by decide) (by decide) (by decide), z397, p4]
    · rw [p4]; decide
    · rw [p4] at k1; omega
    · rw [gx' 1 (by decide) (by decide) (by decide) (by decide) (by decide)]; exact z11
end TextP
