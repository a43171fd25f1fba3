-- class and model side by side: the actions
theorem INV_th {n : Nat} {μ : Mem} (h : INV n μ) : INV n (up μ 399 0 0) := by
  have h13 := h.2.2.2.2.1
  exact INV_frame h (Nat.le_refl _) (fun r _ _ _ _ _ r6 _ _ _ _ => up_ne r6) (fun k hk => up_oth (by omega)) (by rw [up_ne (by decide)]; exact h13)
section Pairs
variable {G : GT} {n : Nat} {μ : Mem}
theorem C_hasNode (hg : gx G = FX) {Q : Int → Nat → Mem → Prop} {v nd cn : Int} {of : Int → Int} (hN : NRel n μ 7 nd cn of) (q0 : ¬ (0 ≤ v ∧ v < nd) → Q 0 n μ) (q1 : 0 ≤ v ∧ v < nd → Q 1 n μ) : CI G Y_X3_hasNode [.inr 7, .inl v] n μ Q := by
  refine m_X3_hasNode hg St_7 ?_
  rw [hN.1]
  exact ⟨fun z => q0 (by omega), fun z => ⟨fun y => q0 (by omega), fun y => q1 (by omega)⟩⟩
theorem C_hasContact (hg : gx G = FX) {Q : Int → Nat → Mem → Prop} {c nd cn : Int} {of : Int → Int} (hN : NRel n μ 7 nd cn of) (q0 : ¬ (0 ≤ c ∧ c < cn) → Q 0 n μ) (q1 : 0 ≤ c ∧ c < cn → Q 1 n μ) : CI G Y_X3_hasContact [.inr 7, .inl c] n μ Q := by
  refine m_X3_hasContact hg St_7 ?_
  rw [hN.2.1]
  exact ⟨fun z => q0 (by omega), fun z => ⟨fun y => q0 (by omega), fun y => q1 (by omega)⟩⟩
theorem C_sendable (hg : gx G = FX) {Q : Int → Nat → Mem → Prop} {v g w p nd cn : Int} {of : Int → Int} (hN : NRel n μ 7 nd cn of) (q0 : ¬ ((0 ≤ v ∧ v < nd) ∧ (0 ≤ g ∧ g < nd) ∧ (1 ≤ w ∧ w ≤ 20) ∧ 0 ≤ p ∧ p ≤ 2) → Q 0 n μ) (q1 : (0 ≤ v ∧ v < nd) ∧ (0 ≤ g ∧ g < nd) ∧ (1 ≤ w ∧ w ≤ 20) ∧ 0 ≤ p ∧ p ≤ 2 → Q 1 n μ) : CI G Y_X10_isSendable [.inr 0, .inl v, .inl g, .inl w, .inl p] n μ Q := by
  refine m_X10_isSendable hg (C_hasNode hg hN (fun z => ⟨fun _ => q0 (fun y => z y.1), fun y => absurd rfl y⟩) (fun z => ⟨fun y => absurd y (by decide), fun _ => ?_⟩))
  refine C_hasNode hg hN (fun y => ⟨fun _ => q0 (fun x => y x.2.1), fun x => absurd rfl x⟩) (fun y => ⟨fun x => absurd x (by decide), fun _ => ?_⟩)
  refine C_within hg (fun x => ⟨fun _ => q0 (fun u => x u.2.2.1), fun u => absurd rfl u⟩) (fun x => ⟨fun u => absurd u (by decide), fun _ => ?_⟩)
  exact C_within hg (fun u => ⟨fun _ => q0 (fun t => u t.2.2.2), fun t => absurd rfl t⟩) (fun u => ⟨fun t => absurd t (by decide), fun _ => q1 ⟨z, y, x, u⟩⟩)
/-- a set is planned, by its open ones -/
theorem C_plans (hg : gx G = FX) {Q : Nat → Mem → Prop} {nd cn a x : Int} {of s s' : Int → Int} {r : Nat} (o : St a 7 5) (hp : PW nd cn of) (hN : NRel n μ 7 nd cn of) (hs : SV nd cn of s) (hx : st8 x) (h : SRel of s μ a (opX of s x)) (hPA : PA cn of r s x s') (hr : r ≤ 8) (h13 : 0 ≤ μ 13 2 ∧ μ 13 2 ≤ 6)
    (q : ∀ ν, FrL a μ ν → (0 ≤ ν 13 2 ∧ ν 13 2 ≤ 6) → SRel of s' ν a 0 → Q n ν) : CV G Y_X5_planAll [.inr 17, .inr a, .inl (opX of s x)] n μ Q := by
  have hm8 := hs.1.2.2.2.1
  obtain ⟨r', hr', hPA'⟩ := PA_open hp r hs hx hPA
  refine m_X5_planAll hg o (C_planAll hg o hp hN q r' s (opX of s x) 0 μ hs (setP_st _ (by omega)) (fun j j0 j1 hj => ?_) h hPA' (by decide) (by omega) FrL.rf h13)
  have := (setP_ms (p := fun b => msB x b ∧ stateP of s b ≤ 1) (m := (s 2).toNat) (by omega) ⟨j0, j1⟩).mp hj
  exact ⟨by omega, this.2.2⟩
theorem hist_keep {nd cn u : Int} {of past s : Int → Int} {ν ξ : Mem} (h76 : ξ 76 = ν 76) (h : ∀ r : Int, 107 ≤ r → r < 339 → ξ r = ν r)
    (q : ∀ past' d, isD u d → (∀ k j, 0 ≤ k → k < u - d → 0 ≤ j → j < 163 → past' (163 * k + j) = past (163 * (k + d) + j)) → (∀ j, 0 ≤ j → j < 163 → past' (163 * (u - d) + j) = s j) → HRel nd cn of ν (u + 1 - d) past') :
    ∀ past' d, isD u d → (∀ k j, 0 ≤ k → k < u - d → 0 ≤ j → j < 163 → past' (163 * k + j) = past (163 * (k + d) + j)) → (∀ j, 0 ≤ j → j < 163 → past' (163 * (u - d) + j) = s j) → HRel nd cn of ξ (u + 1 - d) past' :=
  fun past' d a b c => HRel_keep h76 h (q past' d a b c)
/-- what sends() answers, in both -/
theorem send_ans {nd cn b : Int} {of s : Int → Int} (hs : SV nd cn of s) (hb : 0 ≤ b ∧ b < s 2) (h7 : it s b 7 = -9) (hp : PW nd cn of) : (if stateP of s b = 2 then s 0 else if stateP of s b = 1 then endP of s b else -9) = (if stateP of s b = 2 then s 0 else endP of s b) := by
  by_cases c2 : stateP of s b = 2
  · rw [if_pos c2, if_pos c2]
  · rw [if_neg c2, if_neg c2]
    by_cases c1 : stateP of s b = 1
    · rw [if_pos c1]
    · rw [if_neg c1]
      have hB := hs.1.2.2.2.2 b hb.1 hb.2
      have hv := hs.2.1 b hb.1 hb.2
      have h9 : it s b 9 ≤ 0 := by
        by_cases c9 : 0 < it s b 9
        · exfalso
          have ho := CH_open hp hB hv.1 hv.2 c9
          have hin := stateP_in (of := of) (s := s) (b := b)
          have hw := (stateP_wait (of := of) (s := s) (b := b)).mp (by omega)
          refine hw.2 ?_
          have := (hv.1.2.1 c9).2.2.2.2
          unfold hopC at this
          unfold leadsP
          rw [if_neg (by omega), show 10 + 2 * it s b 9 - 2 = 10 + 2 * (it s b 9 - 1) by omega]
          exact this
        · omega
      unfold endP
      rw [if_pos h9, if_pos h7]
theorem PA_0 {cn : Int} {of s s' : Int → Int} {r : Nat} (h8 : s 2 ≤ 8) (h : PA cn of r s 0 s') : s' = s := by
  cases r with
  | zero => exact h.2
  | succ r =>
    obtain ⟨b, hb, -⟩ := h
    exact absurd hb.2.2.1 (ms_0 ⟨hb.1, by have := hb.2.1; omega⟩)
theorem P_sends (hg : gx G = FX) {v g w d p : Int} (h : INV n μ) : Pr G Y_X10_sends Y_X11_sends [.inl v, .inl g, .inl w, .inl d, .inl p] n μ := by
  have hM := h.mi
  have hI := h
  obtain ⟨h1, hp, ⟨hs, h8, hS⟩, hN, h13, hH, -⟩ := hI
  have hm8 := hs.1.2.2.2.1
  have hm0 := hs.1.2.2.1
  have bad : ¬ sendOk (μ 399 1) v g w d p → CI G Y_X11_sends [.inr 399, .inl v, .inl g, .inl w, .inl d, .inl p] n μ (fun b n2 μ2 => -1 = b ∧ INV n2 μ2) := fun hno =>
    S_sends hg hM (fun _ => ⟨rfl, INV_th h⟩) (fun z => absurd z hno) (fun z => absurd z hno)
  unfold Pr
  refine m_X10_sends hg (C_sendable hg hN (fun z => ⟨fun _ => bad (fun y => z ⟨y.1, y.2.1, y.2.2.1, y.2.2.2.2⟩), fun y => absurd rfl y⟩) (fun z => ⟨fun y => absurd y (by decide), fun _ => C_within hg (fun y => ⟨fun x => absurd rfl x, fun _ => bad (fun x => y x.2.2.2.1)⟩) (fun y => ⟨fun _ => ⟨fun x => ?_, fun x => ?_⟩, fun x => absurd x (by decide)⟩)⟩))
  · -- there is room
    have hok : sendOk (μ 399 1) v g w d p := ⟨z.1, z.2.1, z.2.2.1, y, z.2.2.2⟩
    rw [hS.1] at x
    have hsn := newP_SV (v := v) (g := g) (w := w) (d := d) (p := p) hs (by omega) z.1 z.2.1 z.2.2.1 y z.2.2.2
    have l2 : newP (μ 402) v g w d p 2 = μ 402 2 + 1 := (newP_lo hm0 (by decide)).trans (if_pos rfl)
    have l1 : newP (μ 402) v g w d p 1 = μ 402 1 := (newP_lo hm0 (by decide)).trans (if_neg (by decide))
    have hb8 : 0 ≤ μ 402 2 ∧ μ 402 2 < 8 := ⟨hm0, x⟩
    have hbn : 0 ≤ μ 402 2 ∧ μ 402 2 < newP (μ 402) v g w d p 2 := by rw [l2]; omega
    obtain ⟨r, s', hr, hPA⟩ := PA_all (x := iShl 1 (μ 402 2)) hp hsn.1 (shl_st hb8) (fun j j0 j1 hj => by rw [ms_shl hb8 ⟨j0, j1⟩] at hj; omega)
    have hok' := PA_ok hp r hsn.1 hPA
    have hs' := PA_SV hp r hsn hPA
    have e72 : it s' (μ 402 2) 7 = -9 := by
      rw [hok'.2.2 (μ 402 2) 7 (by decide) (by decide) (by decide)]
      exact (newP_it hm0 hm0 (by decide)).trans (by rw [if_pos rfl]; rfl)
    have hb' : 0 ≤ μ 402 2 ∧ μ 402 2 < s' 2 := by rw [hok'.2.1 2 (by decide)]; exact hbn
    have oB := St_SB St_18 (b := μ 402 2) hm0 (by omega)
    refine C_remember hg hs h8 hS hH (fun ν hF hHi => ?_)
    have hFC := FrC.h hF
    have hSν := SRel_keep hm8 (fun r r0 r1 => hF r (by omega) (by omega)) hS
    refine m_X7_addBundle hg St_18 ?_
    rw [up_self, hSν.1, show μ 402 2 + 1 - 1 = μ 402 2 by omega]
    refine ⟨by unfold inR; omega, by unfold inR; omega, S_bundleAt hg St_18 hb8 ⟨oB, S_start hg oB (fun ξ hFx e2 e3 e4 e5 e6 e7 e8 e9 => ?_)⟩⟩
    have hSx := SRel_new (v := v) (g := g) (w := w) (d := d) (p := p) hs.1 (by omega) hSν rfl hFx e2 e3 e4 e5 e6 e7 e8 e9
    have hFC1 : FrC μ (up ν 18 2 (μ 402 2 + 1)) := fun r r1 r2 r3 r4 => by rw [up_ne (by omega)]; exact hFC r r1 r2 r3 r4
    have hFx' : FrC μ ξ := fun r r1 r2 r3 r4 => by rw [hFx r (by omega)]; exact hFC1 r r1 r2 r3 r4
    have x76 : ξ 76 = ν 76 := by rw [hFx 76 (by omega), up_ne (by decide)]
    have xsl : ∀ r : Int, 107 ≤ r → r < 339 → ξ r = ν r := fun r r0 r1 => by rw [hFx r (by omega), up_ne (by omega)]
    have x13 : 0 ≤ ξ 13 2 ∧ ξ 13 2 ≤ 6 := by
      rw [hFx 13 (by omega), up_ne (by decide), hF 13 (by decide) (by decide)]
      exact h13
    have hNx := NRel_C hFx' hN
    -- the answer, when all is planned
    have fin : ∀ η : Mem, FrC μ η → (0 ≤ η 13 2 ∧ η 13 2 ≤ 6) → η 76 = ν 76 → (∀ r : Int, 107 ≤ r → r < 339 → η r = ν r) → SRel (μ 400) s' η 18 0 → B_X10_sends_106 G (fun a n1 μ1 => CI G Y_X11_sends [.inr 399, .inl v, .inl g, .inl w, .inl d, .inl p] n1 μ1 (fun b n2 μ2 => a = b ∧ INV n2 μ2)) n η (μ 402 2) := by
      intro η hFe hη13 e76 esl hSe
      have hNe := NRel_C hFe hN
      refine b_X10_sends_106 hg (C_tickAtGoal hg St_18 hp hNe hs' hSe hb' ?_)
      obtain ⟨hMe, m9, m0, m2, m3⟩ := hFe.m hM
      refine S_sends hg hMe (fun hno => absurd hok (by rw [m9] at hno; exact hno)) (fun _ hfull => absurd hfull (by rw [m2]; omega)) (fun _ _ => ⟨r, s', by rw [m9, m0, m2]; exact hPA, fun ζ e hA hd e2' hP => ⟨?_, INV_act h hFe hη13 (hist_keep e76 esl hHi) ⟨hs', by rw [hok'.2.1 1 (by decide), l1]; exact h8, hSe⟩ hA hd e2' hP⟩⟩)
      rw [m0, m2]
      exact send_ans hs' hb' e72 hp
    have hom : ∀ j, 0 ≤ j → j < 8 → (msB (opX (μ 400) (newP (μ 402) v g w d p) (iShl 1 (μ 402 2))) j ↔ j = μ 402 2 ∧ stateP (μ 400) (newP (μ 402) v g w d p) j ≤ 1) := by
      intro j j0 j1
      have := setP_ms (p := fun b => msB (iShl 1 (μ 402 2)) b ∧ stateP (μ 400) (newP (μ 402) v g w d p) b ≤ 1) (m := (newP (μ 402) v g w d p 2).toNat) (by rw [l2]; omega) ⟨j0, j1⟩
      unfold opX
      rw [this, ms_shl hb8 ⟨j0, j1⟩, l2]
      exact ⟨fun t => t.2, fun t => ⟨by omega, t⟩⟩
    refine C_isOpen hg St_18 hp hNx hsn hSx hbn (fun t => ⟨fun _ => ?_, fun u => absurd rfl u⟩) (fun t => ⟨fun u => absurd u (by decide), fun _ => ?_⟩)
    · -- closed: nothing is planned
      obtain ⟨r', hr', hPA'⟩ := PA_open hp r hsn (shl_st hb8) hPA
      have e0 : opX (μ 400) (newP (μ 402) v g w d p) (iShl 1 (μ 402 2)) = 0 := st_ext0 (setP_st _ (by rw [l2]; omega)) (fun j j0 j1 u => by
        have := (hom j j0 j1).mp u
        rw [this.1] at this
        exact t this.2)
      rw [e0] at hPA'
      have es := PA_0 (by rw [l2]; omega) hPA'
      rw [es] at fin
      exact fin ξ hFx' x13 x76 xsl hSx
    · have e1 : opX (μ 400) (newP (μ 402) v g w d p) (iShl 1 (μ 402 2)) = iShl 1 (μ 402 2) := st_ext (setP_st _ (by rw [l2]; omega)) (shl_st hb8) (fun j j0 j1 => by
        rw [hom j j0 j1, ms_shl hb8 ⟨j0, j1⟩]
        exact ⟨fun u => u.1, fun u => ⟨u, by rw [u]; exact t⟩⟩)
      have hpl := C_plans (G := G) (n := n) (μ := ξ) hg (Q := fun n28 μ29 => B_X10_sends_106 G (fun a n1 μ1 => CI G Y_X11_sends [.inr 399, .inl v, .inl g, .inl w, .inl d, .inl p] n1 μ1 (fun b n2 μ2 => a = b ∧ INV n2 μ2)) n28 μ29 (μ 402 2)) St_18 hp hNx hsn (shl_st hb8) (SRel_sub hSx (fun b b0 b1 _ u => absurd u (ms_0 ⟨b0, by omega⟩))) hPA hr x13 (fun η hFe hη13 hSe => fin η (hFx'.l hFe) hη13 (by rw [hFe 76 (by decide) (by decide)]; exact x76) (fun r r0 r1 => by rw [hFe r (by omega) (by omega)]; exact xsl r r0 r1) hSe)
      rw [e1] at hpl
      exact hpl
  · have hfull : μ 402 2 = 8 := by rw [hS.1] at x; omega
    exact S_sends hg hM (fun hno => absurd (show sendOk (μ 399 1) v g w d p from ⟨z.1, z.2.1, z.2.2.1, y, z.2.2.2⟩) hno) (fun _ _ => ⟨rfl, INV_th h⟩) (fun _ hl => absurd hl (by omega))
theorem P_drops (hg : gx G = FX) {b : Int} (h : INV n μ) : Pr G Y_X10_drops Y_X11_drops [.inl b] n μ := by
  have hM := h.mi
  have hI := h
  obtain ⟨h1, hp, ⟨hs, h8, hS⟩, hN, h13, hH, -⟩ := hI
  have hm8 := hs.1.2.2.2.1
  unfold Pr
  refine m_X10_drops hg (C_hasBundle hg St_18 hS (fun z => ⟨fun y => absurd rfl y, fun _ => ?_⟩) (fun z => ⟨fun _ => ?_, fun y => absurd y (by decide)⟩))
  · exact S_drops hg hM (fun _ => ⟨rfl, INV_th h⟩) (fun y0 y1 => absurd ⟨y0, y1⟩ z) (fun y0 y1 => absurd ⟨y0, y1⟩ z)
  · refine C_isOpen hg St_18 hp hN hs hS z (fun y => ⟨fun x => absurd rfl x, fun _ => ?_⟩) (fun y => ⟨fun _ => ?_, fun x => absurd x (by decide)⟩)
    · exact S_drops hg hM (fun x => absurd z x) (fun _ _ _ => ⟨rfl, INV_th h⟩) (fun _ _ x => absurd x y)
    · refine C_remember hg hs h8 hS hH (fun ν hF hHi => ?_)
      have hFC := FrC.h hF
      have hSν := SRel_keep hm8 (fun r r0 r1 => hF r (by omega) (by omega)) hS
      have oB := St_SB St_18 (b := b) z.1 (by omega)
      refine S_bundleAt hg St_18 ⟨z.1, by omega⟩ ⟨oB, C_drop hg St_18 hp hs hSν z (fun ξ hFx hSx => ?_)⟩
      have hFx' := hFC.s hFx
      obtain ⟨hMe, m9, m0, m2, m3⟩ := hFx'.m hM
      have hl1 : dropP (μ 402) b 1 = μ 402 1 := (set1_ne (by omega)).trans (set1_ne (by omega))
      refine S_drops hg hMe (fun x => absurd z (by rw [m2] at x; exact x)) (fun _ _ x => absurd y (by rw [m0, m2] at x; exact x)) (fun _ _ _ ζ e hA hd e2 hP => ⟨rfl, INV_act h hFx' (by rw [hFx 13 (by decide), hF 13 (by decide) (by decide)]; exact h13) (hist_keep (hFx 76 (by decide)) (fun r r0 r1 => hFx r (by omega)) hHi) ⟨dropP_SV hs z, by rw [hl1]; exact h8, hSx⟩ hA hd (by rw [e2, m2]) hP⟩)
theorem P_passes (hg : gx G = FX) {k : Int} (h : INV n μ) : Pr G Y_X10_passes Y_X11_passes [.inl k] n μ := by
  have hM := h.mi
  have hI := h
  obtain ⟨h1, hp, ⟨hs, h8, hS⟩, hN, h13, hH, -⟩ := hI
  have hm8 := hs.1.2.2.2.1
  have hs0 := hs.1.1
  have hs1 := hs.1.2.1
  unfold Pr
  refine m_X10_passes hg (C_within hg (fun z => ⟨fun y => absurd rfl y, fun _ => ?_⟩) (fun z => ⟨fun _ => ?_, fun y => absurd y (by decide)⟩))
  · exact S_passes hg hM (fun _ => ⟨rfl, INV_th h⟩) (fun y => absurd y z) (fun y => absurd y z)
  · rw [hS.2.1]
    refine ⟨by unfold inR; omega, fun y => ?_, fun y => ?_⟩
    · refine C_remember hg hs h8 hS hH (fun ν hF hHi => ?_)
      have hFC := FrC.h hF
      have hSν := SRel_keep hm8 (fun r r0 r1 => hF r (by omega) (by omega)) hS
      have hpa := passP_SV (k := k) hp hs (by omega)
      refine C_advance hg St_18 hp (NRel_C hFC hN) hs hSν (by omega) (fun ξ hFx hSx => ?_)
      have hFx' := hFC.s hFx
      obtain ⟨hMe, m9, m0, m2, m3⟩ := hFx'.m hM
      have hlo := moveAll_ok hp (SR_now (t := μ 402 0 + k) hs.1 (by omega)) (μ 402 2).toNat (by rw [set1_ne (by decide)]; have := hs.1.2.2.1; omega)
      have e0 : passP (μ 400) (μ 402) k 0 = μ 402 0 + k := (hlo.2.1 0 (by decide)).trans (set1_at _ _ _)
      have e1 : passP (μ 400) (μ 402) k 1 = μ 402 1 := (hlo.2.1 1 (by decide)).trans (set1_ne (by decide))
      rw [hSx.2.1, e0]
      refine S_passes hg hMe (fun x => absurd z x) (fun _ x => absurd x (by rw [m2]; omega)) (fun _ _ ζ e hA hd e2 hP => ⟨by rw [m2], INV_act h hFx' (by rw [hFx 13 (by decide), hF 13 (by decide) (by decide)]; exact h13) (hist_keep (hFx 76 (by decide)) (fun r r0 r1 => hFx r (by omega)) hHi) ⟨hpa, by rw [e1]; exact h8, hSx⟩ hA hd (by rw [e2, m0, m2]) hP⟩)
    · exact S_passes hg hM (fun x => absurd z x) (fun _ _ => ⟨rfl, INV_th h⟩) (fun _ x => absurd x y)
theorem P_misses (hg : gx G = FX) {c : Int} (h : INV n μ) : Pr G Y_X10_misses Y_X11_misses [.inl c] n μ := by
  have hM := h.mi
  have hI := h
  obtain ⟨h1, hp, ⟨hs, h8, hS⟩, hN, h13, hH, -⟩ := hI
  have hm8 := hs.1.2.2.2.1
  have hc8 := hp.2.2.2.1
  unfold Pr
  refine m_X10_misses hg (C_hasContact hg hN (fun z => ⟨fun y => absurd rfl y, fun _ => ?_⟩) (fun z => ⟨fun _ => ?_, fun y => absurd y (by decide)⟩))
  · exact S_misses hg hM (fun _ => ⟨rfl, INV_th h⟩) (fun y0 y1 => absurd ⟨y0, y1⟩ z) (fun y0 y1 => absurd ⟨y0, y1⟩ z)
  · refine C_isMissed hg St_18 hS (fun y => ⟨fun _ => ?_, fun x => absurd rfl x⟩) (fun y => ⟨fun x => absurd x (by decide), fun _ => ?_⟩)
    · refine C_remember hg hs h8 hS hH (fun ν hF hHi => ?_)
      have hFC := FrC.h hF
      have hSν := SRel_keep hm8 (fun r r0 r1 => hF r (by omega) (by omega)) hS
      have hNν := NRel_C hFC hN
      obtain ⟨r, s', hr, hPA⟩ := loss_PA (c := c) hp hs.1
      have hls := lossP_SV (c := c) hs
      have hs' := PA_SV hp r hls hPA
      have hok' := PA_ok hp r hls.1 hPA
      refine C_lose hg St_18 hp hNν hs hSν z (fun ξ hFx hSx => ?_)
      have hFx' := hFC.s hFx
      have x13 : 0 ≤ ξ 13 2 ∧ ξ 13 2 ≤ 6 := by rw [hFx 13 (by decide), hF 13 (by decide) (by decide)]; exact h13
      refine C_plans hg St_18 hp (NRel_C hFx' hN) hls (lossX_st hm8) hSx hPA hr x13 (fun η hFe hη13 hSe => ?_)
      have hFe' := hFx'.l hFe
      obtain ⟨hMe, m9, m0, m2, m3⟩ := hFe'.m hM
      refine C_countStanding hg St_18 hp (NRel_C hFe' hN) hs' hSe ?_
      have e1 : s' 1 = missP (μ 402) c 1 := (hok'.2.1 1 (by decide)).trans (loseS_lo _ (by decide))
      refine S_misses hg hMe (fun x => absurd z (by rw [m9] at x; exact x)) (fun _ _ x => absurd (by rw [m2] at x; exact x) y) (fun _ _ _ => ⟨r, s', by rw [m9, m0, m2]; exact hPA, fun ζ e hA hd e2 hP => ⟨by rw [m0], INV_act h hFe' hη13 (hist_keep ((hFe 76 (by decide) (by decide)).trans (hFx 76 (by decide))) (fun r r0 r1 => (hFe r (by omega) (by omega)).trans (hFx r (by omega))) hHi) ⟨hs', by rw [e1]; exact st8_miss h8 ⟨z.1, by omega⟩, hSe⟩ hA hd e2 hP⟩⟩)
    · exact S_misses hg hM (fun x => absurd z x) (fun _ _ _ => ⟨rfl, INV_th h⟩) (fun _ _ x => absurd y x)
theorem P_finds (hg : gx G = FX) {c : Int} (h : INV n μ) : Pr G Y_X10_finds Y_X11_finds [.inl c] n μ := by
  have hM := h.mi
  have hI := h
  obtain ⟨h1, hp, ⟨hs, h8, hS⟩, hN, h13, hH, -⟩ := hI
  have hm8 := hs.1.2.2.2.1
  have hc8 := hp.2.2.2.1
  unfold Pr
  refine m_X10_finds hg (C_hasContact hg hN (fun z => ⟨fun y => absurd rfl y, fun _ => ?_⟩) (fun z => ⟨fun _ => ?_, fun y => absurd y (by decide)⟩))
  · exact S_finds hg hM (fun _ => ⟨rfl, INV_th h⟩) (fun y0 y1 => absurd ⟨y0, y1⟩ z) (fun y0 y1 => absurd ⟨y0, y1⟩ z)
  · refine C_isMissed hg St_18 hS (fun y => ⟨fun x => absurd rfl x, fun _ => ?_⟩) (fun y => ⟨fun _ => ?_, fun x => absurd x (by decide)⟩)
    · exact S_finds hg hM (fun x => absurd z x) (fun _ _ _ => ⟨rfl, INV_th h⟩) (fun _ _ x => absurd x y)
    · refine C_remember hg hs h8 hS hH (fun ν hF hHi => ?_)
      have hFC := FrC.h hF
      have hSν := SRel_keep hm8 (fun r r0 r1 => hF r (by omega) (by omega)) hS
      have hNν := NRel_C hFC hN
      obtain ⟨r, s', hr, hPA⟩ := find_PA (c := c) hp hs.1
      have hls := findP_SV (c := c) hs
      have hs' := PA_SV hp r hls hPA
      have hok' := PA_ok hp r hls.1 hPA
      have f2 : findP (μ 402) c 2 = μ 402 2 := set1_ne (by decide)
      have hX8 : st8 (findX (μ 400) (μ 402) c) := setP_st _ (by omega)
      have eX : opX (μ 400) (findP (μ 402) c) (findX (μ 400) (μ 402) c) = findX (μ 400) (μ 402) c := by
        refine st_ext (setP_st _ (by rw [f2]; omega)) hX8 (fun j j0 j1 => ?_)
        have g1 := setP_ms (p := fun b => msB (findX (μ 400) (μ 402) c) b ∧ stateP (μ 400) (findP (μ 402) c) b ≤ 1) (m := (findP (μ 402) c 2).toNat) (by rw [f2]; omega) ⟨j0, j1⟩
        have g2 := setP_ms (p := fun b => stateP (μ 400) (findP (μ 402) c) b = 0) (m := (μ 402 2).toNat) (by omega) ⟨j0, j1⟩
        unfold opX
        rw [g1, f2]
        refine ⟨fun t => t.2.1, fun t => ⟨(g2.mp t).1, t, ?_⟩⟩
        rw [(g2.mp t).2]
        decide
      refine C_regain hg St_18 hp hNν hs hSν (fun ξ hFx hSx => ?_)
      have hFx' := hFC.s hFx
      have x13 : 0 ≤ ξ 13 2 ∧ ξ 13 2 ≤ 6 := by rw [hFx 13 (by decide), hF 13 (by decide) (by decide)]; exact h13
      have hpl := C_plans (G := G) (n := n) (μ := ξ) hg (Q := fun n16 μ17 => CI G Y_X7_countStanding [.inr 18, .inl 0] n16 μ17 (fun x18 n19 μ20 => CI G Y_X11_finds [.inr 399, .inl c] n19 μ20 (fun b n2 μ2 => x18 = b ∧ INV n2 μ2))) St_18 hp (NRel_C hFx' hN) hls hX8 (SRel_sub hSx (fun b b0 b1 _ u => absurd u (ms_0 ⟨b0, by rw [f2] at b1; omega⟩))) hPA hr x13 (fun η hFe hη13 hSe => ?_)
      · rw [eX] at hpl
        exact hpl
      · have hFe' := hFx'.l hFe
        obtain ⟨hMe, m9, m0, m2, m3⟩ := hFe'.m hM
        refine C_countStanding hg St_18 hp (NRel_C hFe' hN) hs' hSe ?_
        have e1 : s' 1 = findP (μ 402) c 1 := hok'.2.1 1 (by decide)
        refine S_finds hg hMe (fun x => absurd z (by rw [m9] at x; exact x)) (fun _ _ x => absurd y (by rw [m2] at x; exact x)) (fun _ _ _ => ⟨r, s', by rw [m9, m0, m2]; exact hPA, fun ζ e hA hd e2 hP => ⟨by rw [m0], INV_act h hFe' hη13 (hist_keep ((hFe 76 (by decide) (by decide)).trans (hFx 76 (by decide))) (fun r r0 r1 => (hFe r (by omega) (by omega)).trans (hFx r (by omega))) hHi) ⟨hs', by rw [e1]; exact st8_find h8 ⟨z.1, by omega⟩, hSe⟩ hA hd e2 hP⟩⟩)
end Pairs
