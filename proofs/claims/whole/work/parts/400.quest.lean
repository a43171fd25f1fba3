-- class and model side by side: the questions
theorem INV_ph {n : Nat} {μ ξ : Mem} (h : INV n μ) (g : ∀ r : Int, ¬ (10 ≤ r ∧ r ≤ 16) → ¬ (18 ≤ r ∧ r < 47) → r ≠ 76 → ¬ (107 ≤ r ∧ r < 339) → r ≠ 399 → r ≠ 402 → r ≠ 403 → ¬ (411 ≤ r ∧ r ≤ 414) → ξ r = μ r) (f : ∀ k, k = 1 ∨ k = 2 ∨ k = 13 ∨ k = 17 → ξ 399 k = μ 399 k) (h13 : 0 ≤ ξ 13 2 ∧ ξ 13 2 ≤ 6)
    (hS : SvRel (μ 399 1) (μ 399 2) (μ 400) (ξ 402) ξ 18) (hH : HRel (μ 399 1) (μ 399 2) (μ 400) ξ (ξ 399 8) (ξ 403)) : INV n ξ := by
  obtain ⟨h1, h2, h3, h4, h5, h6, h7, h8, h9, h10⟩ := h
  have x0 : ξ 400 = μ 400 := g 400 (by decide) (by decide) (by decide) (by decide) (by decide) (by decide) (by decide) (by decide)
  have x10 : ξ 410 = μ 410 := g 410 (by decide) (by decide) (by decide) (by decide) (by decide) (by decide) (by decide) (by decide)
  unfold INV
  rw [f 1 (by omega), f 2 (by omega), f 17 (by omega), x0, x10]
  refine ⟨h1, h2, hS, NRel_keep (Nat.le_refl _) (g 7 (by decide) (by decide) (by decide) (by decide) (by decide) (by decide) (by decide) (by decide)) (g (7 + 2) (by decide) (by decide) (by decide) (by decide) (by decide) (by decide) (by decide) (by decide)) (fun p hp => g p (by omega) (by omega) (by omega) (by omega) (by omega) (by omega) (by omega) (by omega)) h4, h13, hH, ImgR_keep ?_ ?_ ?_ (fun r r0 r1 => g r (by omega) (by omega) (by omega) (by omega) (by omega) (by omega) (by omega) (by omega)) h7, ObsR_keep ?_ ?_ (f 13 (by omega)) ?_ ?_ ?_ h8, h9, ?_⟩
  · rw [g 0 (by decide) (by decide) (by decide) (by decide) (by decide) (by decide) (by decide) (by decide)]
  · exact g 404 (by decide) (by decide) (by decide) (by decide) (by decide) (by decide) (by decide) (by decide)
  · exact g 405 (by decide) (by decide) (by decide) (by decide) (by decide) (by decide) (by decide) (by decide)
  · rw [g 397 (by decide) (by decide) (by decide) (by decide) (by decide) (by decide) (by decide) (by decide)]
  · exact g (397 + 1) (by decide) (by decide) (by decide) (by decide) (by decide) (by decide) (by decide) (by decide)
  · exact g 407 (by decide) (by decide) (by decide) (by decide) (by decide) (by decide) (by decide) (by decide)
  · exact g 408 (by decide) (by decide) (by decide) (by decide) (by decide) (by decide) (by decide) (by decide)
  · exact g 409 (by decide) (by decide) (by decide) (by decide) (by decide) (by decide) (by decide) (by decide)
  · unfold TxR
    rw [g 1 (by decide) (by decide) (by decide) (by decide) (by decide) (by decide) (by decide) (by decide), g 2 (by decide) (by decide) (by decide) (by decide) (by decide) (by decide) (by decide) (by decide)]
    exact h10
theorem bit01 : (List.range 256).all (fun x => (List.range 8).all (fun k => iAnd (iShr (x : Nat) (k : Nat)) 1 == 0 || iAnd (iShr (x : Nat) (k : Nat)) 1 == 1)) = true := by decide +kernel
theorem ms_not {x k : Int} (hx : st8 x) (hk : 0 ≤ k ∧ k < 8) : iAnd (iShr x k) 1 = 0 ↔ ¬ msB x k := by
  obtain ⟨a, rfl⟩ := Int.eq_ofNat_of_zero_le hx.1
  obtain ⟨b, rfl⟩ := Int.eq_ofNat_of_zero_le hk.1
  have h1 := List.all_eq_true.mp bit01 a (List.mem_range.mpr (by have := hx.2; omega))
  have h2 := List.all_eq_true.mp h1 b (List.mem_range.mpr (by have := hk.2; omega))
  simp only [Bool.or_eq_true, beq_iff_eq] at h2
  unfold msB
  omega
/-- a way sets out early enough: it is there early enough -/
theorem WK_108 {nd cn w out : Int} {of s : Int → Int} {tk : Int → Int → Prop} (hp : PW nd cn of) (hw : 1 ≤ w ∧ w ≤ 20) : ∀ (l : List Int) {v t g a : Int}, t ≤ 108 → WK cn (Fc of) (Tc of) (EE cn of s tk w out) l v t g a → a ≤ 108 := by
  intro l
  induction l with
  | nil => intro v t g a ht h; rw [← h.2]; exact ht
  | cons f l ihl =>
    intro v t g a ht h
    have := EE_lt (cn := cn) (out := out) (c := f) (t := t) (s := s) (tk := tk) hp hw
    have h9 := h.1.2.2.2
    exact ihl (by omega) h.2
theorem askP_in {nd cn v g w p out : Int} {of s : Int → Int} (hp : PW nd cn of) (hw : 1 ≤ w ∧ w ≤ 20) (h0 : 0 ≤ s 0 ∧ s 0 ≤ 99) : askP cn of s v g w p out = -9 ∨ (0 ≤ askP cn of s v g w p out ∧ askP cn of s v g w p out ≤ 108) := by
  unfold askP
  by_cases c : v = g
  · rw [if_pos c]; right; omega
  · rw [if_neg c]
    by_cases d : askE cn of s v g w p out < 9999
    · rw [if_pos d]
      right
      unfold askE at d ⊢
      obtain ⟨l, hl, hk⟩ := dpP_is 5 d
      have h1 := WK_108 hp hw l (by omega) hk
      have h2 := WK_le (EE_up hp hw) hk
      omega
    · rw [if_neg d]; left; rfl
theorem askP_out {cn v g w p : Int} {of s : Int → Int} : askP cn of s v g w p (-1) = askP cn of s v g w p (-9) := by
  unfold askP askE
  rw [EE_out (out := -1) (out' := -9) (by decide) (by decide)]
section Quest
variable {G : GT} {n : Nat} {μ : Mem}
theorem C_predict (hg : gx G = FX) {Q : Int → Nat → Mem → Prop} {nd cn v g w p out x : Int} {of s : Int → Int} (hp : PW nd cn of) (hN : NRel n μ 7 nd cn of) (h0 : 0 ≤ s 0 ∧ s 0 ≤ 99) (hS : SRel of s μ 18 x) (hR : RunT μ cn (FreeP of s (tkS of s p))) (h13 : 0 ≤ μ 13 2 ∧ μ 13 2 ≤ 6) (hv : 0 ≤ v ∧ v < nd) (hw : 1 ≤ w ∧ w ≤ 20)
    (q : ∀ ν, FrR μ ν → (0 ≤ ν 13 2 ∧ ν 13 2 ≤ 6) → RunT ν cn (FreeP of s (tkS of s p)) → Q (askP cn of s v g w p out) n ν) : CI G Y_X10_predict [.inr 0, .inl v, .inl g, .inl w, .inl out] n μ Q := by
  refine m_X10_predict hg ⟨fun z => ?_, fun z => ?_⟩
  · rw [hS.2.1]
    unfold askP at q
    rw [if_neg z] at q
    refine C_seek hg hp hw hv ⟨h0.1, by omega⟩ z hN hR h13 (fun hA ν hF e1 e2 h13' => ?_) (fun L B hB hA ν hF e1 e2 h13' _ _ => ?_)
    · have q' := q ν hF h13' (by unfold RunT; rw [e1, e2]; exact hR)
      rw [if_neg (show ¬ askE cn of s v g w p out < 9999 by unfold askE; omega)] at q'
      exact q'
    · have q' := q ν hF h13' (by unfold RunT; rw [e1, e2]; exact hR)
      have hlt := WK_lt (by omega) hB.1
      have e : askE cn of s v g w p out = B := hA.symm
      rw [e, if_pos hlt] at q'
      exact q'
  · rw [hS.2.1]
    have q' := q μ (fun _ _ => rfl) h13 hR
    unfold askP at q'
    rw [if_pos z] at q'
    exact q'
theorem FrR.c {μ ν ξ : Mem} (h : ∀ r : Int, ¬ (10 ≤ r ∧ r ≤ 16) → ¬ (47 ≤ r ∧ r < 76) → ν r = μ r) (h2 : FrR ν ξ) : ∀ r : Int, ¬ (10 ≤ r ∧ r ≤ 16) → ¬ (47 ≤ r ∧ r < 76) → ξ r = μ r := fun r r1 r2 => (h2 r r1).trans (h r r1 r2)
theorem ButT.c11 {μ ν : Mem} (h2 : ButT 11 μ ν) : ∀ r : Int, ¬ (10 ≤ r ∧ r ≤ 16) → ¬ (47 ≤ r ∧ r < 76) → ν r = μ r := fun r r1 r2 => h2.1 r (by omega) (by omega)
theorem P_asks (hg : gx G = FX) {v g w p : Int} (h : INV n μ) : Pr G Y_X10_asks Y_X11_asks [.inl v, .inl g, .inl w, .inl p] n μ := by
  have hM := h.mi
  have hI := h
  obtain ⟨h1, hp, ⟨hs, h8, hS⟩, hN, h13, hH, -⟩ := hI
  have hm8 := hs.1.2.2.2.1
  unfold Pr
  refine m_X10_asks hg (C_sendable hg hN (fun z => ⟨fun y => absurd rfl y, fun _ => ?_⟩) (fun z => ⟨fun _ => ?_, fun y => absurd y (by decide)⟩))
  · exact S_asks hg hM (fun _ ν hq => ⟨rfl, INV_q h (fun _ _ _ => rfl) h13 hq⟩) (fun a b c d => absurd ⟨a, b, c, d⟩ z)
  · refine C_lookAt hg St_18 hp hN hs hS (fun ν hF hR => ?_)
    have hc := hF.c11
    have hNν := NRel_T (Or.inl rfl) hF hN
    have hSν := SRel_T St_18 hm8 hF hS
    have n13 : 0 ≤ ν 13 2 ∧ ν 13 2 ≤ 6 := by rw [hF.1 13 (by decide) (by decide)]; exact h13
    refine C_predict hg hp hNν ⟨hs.1.1, hs.1.2.1⟩ hSν hR n13 z.1 z.2.2.1 (fun ξ hFx x13 _ => ?_)
    have hc' := FrR.c hc hFx
    obtain ⟨hMe, m9, m0, m2⟩ := MI_c h hc'
    refine S_asks hg hMe (fun y => by rw [m9] at y; exact absurd z y) (fun _ _ _ _ η hq => ⟨?_, INV_q h hc' x13 hq⟩)
    rw [m9, m0, m2]
    exact askP_out
theorem P_largest (hg : gx G = FX) {v g p y : Int} (h : INV n μ) : Pr G Y_X10_largest Y_X11_largest [.inl v, .inl g, .inl p, .inl y] n μ := by
  have hM := h.mi
  have hI := h
  obtain ⟨h1, hp, ⟨hs, h8, hS⟩, hN, h13, hH, -⟩ := hI
  have hm8 := hs.1.2.2.2.1
  have bad : ¬ ((0 ≤ v ∧ v < μ 399 1) ∧ (0 ≤ g ∧ g < μ 399 1) ∧ (0 ≤ p ∧ p ≤ 2) ∧ 0 ≤ y ∧ y ≤ 120) → CI G Y_X11_largest [.inr 399, .inl v, .inl g, .inl p, .inl y] n μ (fun b n2 μ2 => -1 = b ∧ INV n2 μ2) := fun hno =>
    S_largest hg hM (fun _ ν hq => ⟨rfl, INV_q h (fun _ _ _ => rfl) h13 hq⟩) (fun a b c d => absurd ⟨a, b, c, d⟩ hno)
  unfold Pr
  refine m_X10_largest hg (C_sendable hg hN (fun z => ⟨fun _ => bad (fun u => z ⟨u.1, u.2.1, by decide, u.2.2.1⟩), fun u => absurd rfl u⟩) (fun z => ⟨fun u => absurd u (by decide), fun _ => C_within hg (fun u => ⟨fun t => absurd rfl t, fun _ => bad (fun t => u t.2.2.2)⟩) (fun u => ⟨fun _ => ?_, fun t => absurd t (by decide)⟩)⟩))
  refine C_lookAt hg St_18 hp hN hs hS (fun ν hF hR => ?_)
  have n13 : 0 ≤ ν 13 2 ∧ ν 13 2 ≤ 6 := by rw [hF.1 13 (by decide) (by decide)]; exact h13
  have fin : ∀ (ξ : Mem) (a : Int), (∀ r : Int, ¬ (10 ≤ r ∧ r ≤ 16) → ¬ (47 ≤ r ∧ r < 76) → ξ r = μ r) → (0 ≤ ξ 13 2 ∧ ξ 13 2 ≤ 6) → a = largeP (μ 399 2) (μ 400) (μ 402) v g p y 20 → CI G Y_X11_largest [.inr 399, .inl v, .inl g, .inl p, .inl y] n ξ (fun b n2 μ2 => a = b ∧ INV n2 μ2) := by
    intro ξ a hc hx13 ea
    obtain ⟨hMe, m9, m0, m2⟩ := MI_c h hc
    refine S_largest hg hMe (fun t => by rw [m9] at t; exact absurd ⟨z.1, z.2.1, z.2.2.2, u⟩ t) (fun _ _ _ _ η hq => ⟨?_, INV_q h hc hx13 hq⟩)
    rw [m9, m0, m2]
    exact ea
  have key : ∀ (k : Nat) (ξ : Mem), (k : Int) ≤ 20 → (∀ r : Int, ¬ (10 ≤ r ∧ r ≤ 16) → ¬ (47 ≤ r ∧ r < 76) → ξ r = μ r) → (0 ≤ ξ 13 2 ∧ ξ 13 2 ≤ 6) → RunT ξ (μ 399 2) (FreeP (μ 400) (μ 402) (tkS (μ 400) (μ 402) p)) → largeP (μ 399 2) (μ 400) (μ 402) v g p y k = largeP (μ 399 2) (μ 400) (μ 402) v g p y 20 → B_X10_largest_40 G (fun a n1 μ1 => CI G Y_X11_largest [.inr 399, .inl v, .inl g, .inl p, .inl y] n1 μ1 (fun b n2 μ2 => a = b ∧ INV n2 μ2)) n ξ v g y k := by
    intro k
    induction k with
    | zero =>
      intro ξ hk hc hx13 hRx he
      exact b_X10_largest_40 hg ⟨fun _ => fin ξ (-9) hc hx13 he, fun t => absurd (by omega) t⟩
    | succ k ih =>
      intro ξ hk hc hx13 hRx he
      have hNx : NRel n ξ 7 (μ 399 1) (μ 399 2) (μ 400) := NRel_keep (Nat.le_refl _) (hc 7 (by decide) (by decide)) (hc (7 + 2) (by decide) (by decide)) (fun p hp => hc p (by omega) (by omega)) hN
      have hSx : SRel (μ 400) (μ 402) ξ 18 0 := SRel_keep hm8 (fun r r0 r1 => hc r (by omega) (by omega)) hS
      refine b_X10_largest_40 hg ⟨fun t => absurd t (by omega), fun _ => C_predict hg hp hNx ⟨hs.1.1, hs.1.2.1⟩ hSx hRx hx13 z.1 ⟨by omega, by omega⟩ (fun η hFe e13 hRe => ?_)⟩
      have hc' := FrR.c hc hFe
      rw [askP_out, show ((k + 1 : Nat) : Int) = (k : Int) + 1 by omega]
      unfold largeP at he
      have next : ¬ (askP (μ 399 2) (μ 400) (μ 402) v g ((k : Int) + 1) p (-9) ≠ -9 ∧ askP (μ 399 2) (μ 400) (μ 402) v g ((k : Int) + 1) p (-9) ≤ y) → inR ((k : Int) + 1 + -1) ∧ B_X10_largest_40 G (fun a n1 μ1 => CI G Y_X11_largest [.inr 399, .inl v, .inl g, .inl p, .inl y] n1 μ1 (fun b n2 μ2 => a = b ∧ INV n2 μ2)) n η v g y ((k : Int) + 1 + -1) := by
        intro hno
        rw [if_neg hno] at he
        refine ⟨by unfold inR; omega, ?_⟩
        rw [show (k : Int) + 1 + -1 = k by omega]
        exact ih η (by omega) hc' e13 hRe he
      refine ⟨fun t => next (fun x => x.1 t), fun t => ⟨fun x => next (fun s => by omega), fun x => fin η _ hc' e13 ?_⟩⟩
      rw [if_pos ⟨t, by omega⟩] at he
      exact he
  have := key 20 ν (by decide) hF.c11 n13 hR rfl
  exact this
theorem P_worst (hg : gx G = FX) (h : INV n μ) : Pr G Y_X10_worst Y_X11_worst [] n μ := by
  have hM := h.mi
  have hI := h
  obtain ⟨h1, hp, ⟨hs, h8, hS⟩, hN, h13, hH, -⟩ := hI
  have hm8 := hs.1.2.2.2.1
  have hc0 := hp.2.2.1
  have hc8 := hp.2.2.2.1
  unfold Pr
  have key : ∀ (d k : Nat) (ν : Mem), (k : Int) + d = μ 399 2 → (∀ r : Int, ¬ (10 ≤ r ∧ r ≤ 16) → ¬ (47 ≤ r ∧ r < 76) → ν r = μ r) → (0 ≤ ν 13 2 ∧ ν 13 2 ≤ 6) → B_X10_worst_7 G (fun a n1 μ1 => CI G Y_X11_worst [.inr 399] n1 μ1 (fun b n2 μ2 => a = b ∧ INV n2 μ2)) n ν (worstP (μ 399 2) (μ 400) (μ 402) k).1 (worstP (μ 399 2) (μ 400) (μ 402) k).2 k := by
    intro d
    induction d with
    | zero =>
      intro k ν e hc n13
      have hNν : NRel n ν 7 (μ 399 1) (μ 399 2) (μ 400) := NRel_keep (Nat.le_refl _) (hc 7 (by decide) (by decide)) (hc (7 + 2) (by decide) (by decide)) (fun p hp => hc p (by omega) (by omega)) hN
      refine b_X10_worst_7 hg ⟨fun _ => ?_, fun z => absurd (by rw [hNν.2.1]; omega) z⟩
      obtain ⟨hMe, m9, m0, m2⟩ := MI_c h hc
      refine S_worst hg hMe (fun ξ hO => ⟨?_, INV_frame h (Nat.le_refl _) (fun r r1 r2 r3 r4 r5 r6 r7 r8 r9 r10 => (hO.1 r r6 r8 (by omega) (by omega) (by omega) (by omega)).trans (hc r r1 r2)) (fun k hk => (hO.2 k (by omega) (by omega) (by omega)).trans (by rw [m9])) ?_⟩)
      · rw [m9, m0, m2, show (μ 399 2).toNat = k by omega]
      · rw [hO.1 13 (by decide) (by decide) (by decide) (by decide) (by decide) (by decide)]
        exact n13
    | succ d ih =>
      intro k ν e hc n13
      have hNν : NRel n ν 7 (μ 399 1) (μ 399 2) (μ 400) := NRel_keep (Nat.le_refl _) (hc 7 (by decide) (by decide)) (hc (7 + 2) (by decide) (by decide)) (fun p hp => hc p (by omega) (by omega)) hN
      have hSν : SRel (μ 400) (μ 402) ν 18 0 := SRel_keep hm8 (fun r r0 r1 => hc r (by omega) (by omega)) hS
      refine b_X10_worst_7 hg ⟨fun z => absurd z (by rw [hNν.2.1]; omega), fun _ => C_isMissed hg St_18 hSν (fun z => ⟨fun y => absurd rfl y, fun _ => ?_⟩) (fun z => ⟨fun _ => ⟨by unfold inR; omega, ?_⟩, fun y => absurd y (by decide)⟩)⟩
      · refine C_copyFrom hg St_47 St_18 (by decide) hs.1 hSν (fun ξ hFx hSx => ?_)
        have hcx : ∀ r : Int, ¬ (10 ≤ r ∧ r ≤ 16) → ¬ (47 ≤ r ∧ r < 76) → ξ r = μ r := fun r r1 r2 => (hFx r (by omega)).trans (hc r r1 r2)
        have hNx := NRel_S St_47 hFx hNν
        refine C_lose hg St_47 hp hNx hs hSx ⟨by omega, by omega⟩ (fun η hFe hSe => ?_)
        have hce : ∀ r : Int, ¬ (10 ≤ r ∧ r ≤ 16) → ¬ (47 ≤ r ∧ r < 76) → η r = μ r := fun r r1 r2 => (hFe r (by omega)).trans (hcx r r1 r2)
        have hNe := NRel_S St_47 hFe hNx
        obtain ⟨r, s', hr, hPA⟩ := loss_PA (c := (k : Int)) hp hs.1
        have hls := lossP_SV (c := (k : Int)) hs
        have hs' := PA_SV hp r hls hPA
        have hok' := PA_ok hp r hls.1 hPA
        have ea := afterP_is hp hls.1 hPA
        have e13 : 0 ≤ η 13 2 ∧ η 13 2 ≤ 6 := by rw [hFe 13 (by decide), hFx 13 (by decide)]; exact n13
        refine C_plans hg St_47 hp hNe hls (lossX_st hm8) hSe hPA hr e13 (fun θ hFt t13 hSt => ?_)
        have hct : ∀ r : Int, ¬ (10 ≤ r ∧ r ≤ 16) → ¬ (47 ≤ r ∧ r < 76) → θ r = μ r := fun r r1 r2 => (hFt r (by omega) r1).trans (hce r r1 r2)
        have hNt := NRel_L St_47 hFt hNe
        refine C_countStanding hg St_47 hp hNt hs' hSt ?_
        have e2 : s' 2 = μ 402 2 := (hok'.2.1 2 (by decide)).trans ((loseS_lo _ (by decide)).trans (set1_ne (by decide)))
        have eL : countP (μ 400) s' 0 (s' 2).toNat = lossN (μ 399 2) (μ 400) (μ 402) k := by
          unfold lossN
          rw [ea, e2]
        rw [eL]
        have i := ih (k + 1) θ (by omega) hct t13
        unfold worstP at i
        refine ⟨fun y => ⟨by unfold inR; omega, ?_⟩, fun y => ⟨by unfold inR; omega, ?_⟩⟩
        · rw [if_neg (fun x => by have := x.2; omega)] at i
          exact i
        · rw [if_pos ⟨z, by omega⟩] at i
          exact i
      · have i := ih (k + 1) ν (by omega) hc n13
        unfold worstP at i
        rw [if_neg (fun x => x.1 z)] at i
        exact i
  exact m_X10_worst hg (key (μ 399 2).toNat 0 μ (by omega) (fun _ _ _ => rfl) h13)
theorem Tb_397 : Tb 397 3 6 := ⟨St_397, Or.inr (Or.inr ⟨rfl, rfl, by decide +kernel⟩)⟩
theorem P_unseen (hg : gx G = FX) (h : INV n μ) : Pr G Y_X10_unseen Y_X11_unseen [] n μ := by
  have hM := h.mi
  have hI := h
  obtain ⟨h1, hp, ⟨hs, h8, hS⟩, hN, h13, hH, hIm, hO, -⟩ := hI
  have hm8 := hs.1.2.2.2.1
  have hc0 := hp.2.2.1
  have hc8 := hp.2.2.2.1
  obtain ⟨o1, o2, o3⟩ := hO
  have hseen : seenOk μ := ⟨o2.1, o2.2, fun k k0 k1 => (o3 k k0 k1).2⟩
  unfold Pr
  refine m_X10_unseen hg (C_lookAt hg St_18 hp hN hs hS (fun ν hF hR => ?_))
  have n13 : 0 ≤ ν 13 2 ∧ ν 13 2 ≤ 6 := by rw [hF.1 13 (by decide) (by decide)]; exact h13
  have key : ∀ (d k : Nat) (ξ : Mem), (k : Int) + d = μ 399 2 → (∀ r : Int, ¬ (10 ≤ r ∧ r ≤ 16) → ¬ (47 ≤ r ∧ r < 76) → ξ r = μ r) → (0 ≤ ξ 13 2 ∧ ξ 13 2 ≤ 6) → RunT ξ (μ 399 2) (FreeP (μ 400) (μ 402) (tkS (μ 400) (μ 402) 2)) → B_X10_unseen_16 G (fun a n1 μ1 => CI G Y_X11_unseen [.inr 399] n1 μ1 (fun b n2 μ2 => a = b ∧ INV n2 μ2)) n ξ (setP (fun c => ¬ msB (μ 402 1) c ∧ ∀ i, 0 ≤ i → i < μ 399 13 → seenP (μ 399 2) (μ 400) (μ 402) c (μ 407 i) (μ 408 i) (μ 409 i)) k) k := by
    intro d
    induction d with
    | zero =>
      intro k ξ e hc x13 hRx
      have hNx : NRel n ξ 7 (μ 399 1) (μ 399 2) (μ 400) := NRel_keep (Nat.le_refl _) (hc 7 (by decide) (by decide)) (hc (7 + 2) (by decide) (by decide)) (fun p hp => hc p (by omega) (by omega)) hN
      refine b_X10_unseen_16 hg ⟨fun _ => ?_, fun z => absurd (by rw [hNx.2.1]; omega) z⟩
      obtain ⟨hMe, m9, m0, m2⟩ := MI_c h hc
      have m7 := hc 407 (by decide) (by decide)
      have m8 := hc 408 (by decide) (by decide)
      have m99 := hc 409 (by decide) (by decide)
      have eU : unseenP ξ = unseenP μ := by unfold unseenP; rw [m9, m0, m2, m7, m8, m99]
      refine S_unseen hg hMe (by unfold seenOk; rw [m9, m7, m8, m99]; exact hseen) (fun η hq => ⟨?_, INV_q h hc x13 hq⟩)
      rw [eU]
      unfold unseenP
      rw [show (μ 399 2).toNat = k by omega]
    | succ d ih =>
      intro k ξ e hc x13 hRx
      have hNx : NRel n ξ 7 (μ 399 1) (μ 399 2) (μ 400) := NRel_keep (Nat.le_refl _) (hc 7 (by decide) (by decide)) (hc (7 + 2) (by decide) (by decide)) (fun p hp => hc p (by omega) (by omega)) hN
      have hSx : SRel (μ 400) (μ 402) ξ 18 0 := SRel_keep hm8 (fun r r0 r1 => hc r (by omega) (by omega)) hS
      have hst8 : st8 (setP (fun c => ¬ msB (μ 402 1) c ∧ ∀ i, 0 ≤ i → i < μ 399 13 → seenP (μ 399 2) (μ 400) (μ 402) c (μ 407 i) (μ 408 i) (μ 409 i)) k) := setP_st _ (by omega)
      -- not this one
      have no : ∀ η : Mem, ¬ (¬ msB (μ 402 1) k ∧ ∀ i, 0 ≤ i → i < μ 399 13 → seenP (μ 399 2) (μ 400) (μ 402) k (μ 407 i) (μ 408 i) (μ 409 i)) → (∀ r : Int, ¬ (10 ≤ r ∧ r ≤ 16) → ¬ (47 ≤ r ∧ r < 76) → η r = μ r) → (0 ≤ η 13 2 ∧ η 13 2 ≤ 6) → RunT η (μ 399 2) (FreeP (μ 400) (μ 402) (tkS (μ 400) (μ 402) 2)) → inR ((k : Int) + 1) ∧ B_X10_unseen_16 G (fun a n1 μ1 => CI G Y_X11_unseen [.inr 399] n1 μ1 (fun b n2 μ2 => a = b ∧ INV n2 μ2)) n η (setP (fun c => ¬ msB (μ 402 1) c ∧ ∀ i, 0 ≤ i → i < μ 399 13 → seenP (μ 399 2) (μ 400) (μ 402) c (μ 407 i) (μ 408 i) (μ 409 i)) k) ((k : Int) + 1) := by
        intro η hno hce e13 hRe
        refine ⟨by unfold inR; omega, ?_⟩
        have i := ih (k + 1) η (by omega) hce e13 hRe
        unfold setP at i
        rw [if_neg hno, iOr_0 hst8] at i
        exact i
      refine b_X10_unseen_16 hg ⟨fun z => absurd z (by rw [hNx.2.1]; omega), fun _ => C_isMissed hg St_18 hSx (fun z => ⟨fun y => absurd rfl y, fun _ => ?_⟩) (fun z => ⟨fun _ => no ξ (fun y => y.1 z) hc x13 hRx, fun y => absurd y (by decide)⟩)⟩
      -- row by row
      have ex : ∀ (Q : Int → Nat → Mem → Prop), (∀ η : Mem, (∀ r : Int, ¬ (10 ≤ r ∧ r ≤ 16) → ¬ (47 ≤ r ∧ r < 76) → η r = μ r) → (0 ≤ η 13 2 ∧ η 13 2 ≤ 6) → RunT η (μ 399 2) (FreeP (μ 400) (μ 402) (tkS (μ 400) (μ 402) 2)) → ¬ (∀ i, 0 ≤ i → i < μ 399 13 → seenP (μ 399 2) (μ 400) (μ 402) k (μ 407 i) (μ 408 i) (μ 409 i)) → Q 0 n η) → (∀ η : Mem, (∀ r : Int, ¬ (10 ≤ r ∧ r ≤ 16) → ¬ (47 ≤ r ∧ r < 76) → η r = μ r) → (0 ≤ η 13 2 ∧ η 13 2 ≤ 6) → RunT η (μ 399 2) (FreeP (μ 400) (μ 402) (tkS (μ 400) (μ 402) 2)) → (∀ i, 0 ≤ i → i < μ 399 13 → seenP (μ 399 2) (μ 400) (μ 402) k (μ 407 i) (μ 408 i) (μ 409 i)) → Q 1 n η) → CI G Y_X10_explainsAll [.inr 0, .inl (k : Int)] n ξ Q := by
        intro Q q0 q1
        refine m_X10_explainsAll hg ?_
        have rows : ∀ (e' : Nat) (i : Int) (η : Mem), i + e' = μ 399 13 → 0 ≤ i → (∀ r : Int, ¬ (10 ≤ r ∧ r ≤ 16) → ¬ (47 ≤ r ∧ r < 76) → η r = μ r) → (0 ≤ η 13 2 ∧ η 13 2 ≤ 6) → RunT η (μ 399 2) (FreeP (μ 400) (μ 402) (tkS (μ 400) (μ 402) 2)) → (∀ j, 0 ≤ j → j < i → seenP (μ 399 2) (μ 400) (μ 402) k (μ 407 j) (μ 408 j) (μ 409 j)) → B_X10_explainsAll_2 G Q n η k i := by
          intro e'
          induction e' with
          | zero =>
            intro i η ei i0 hce e13 hRe hall
            exact b_X10_explainsAll_2 hg ⟨fun _ => q1 η hce e13 hRe (fun j j0 j1 => hall j j0 (by omega)), fun y => absurd (by rw [hce 397 (by decide) (by decide)]; omega) y⟩
          | succ e' ihe =>
            intro i η ei i0 hce e13 hRe hall
            have hNe : NRel n η 7 (μ 399 1) (μ 399 2) (μ 400) := NRel_keep (Nat.le_refl _) (hce 7 (by decide) (by decide)) (hce (7 + 2) (by decide) (by decide)) (fun p hp => hce p (by omega) (by omega)) hN
            have hSe : SRel (μ 400) (μ 402) η 18 0 := SRel_keep hm8 (fun r r0 r1 => hce r (by omega) (by omega)) hS
            have t7 := hce 397 (by decide) (by decide)
            have t8 := hce (397 + 1) (by decide) (by decide)
            have ho := o3 i i0 (by omega)
            have e2 : η 397 2 = μ 399 13 := by rw [t7]; exact o1
            have row : ∀ due : Int, (askP (μ 399 2) (μ 400) (μ 402) (μ 407 i) (μ 408 i) 1 2 k = due ↔ seenP (μ 399 2) (μ 400) (μ 402) k (μ 407 i) (μ 408 i) (μ 409 i)) → B_X10_explainsAll_35 G Q n η k i due := by
              intro due hdue
              refine b_X10_explainsAll_35 hg (T_at hg Tb_397 (by rw [e2]; omega) (fun _ _ _ _ => ?_) (fun w => absurd ⟨i0, by rw [e2]; omega, by decide, by decide⟩ w))
              refine T_at hg Tb_397 (by rw [e2]; omega) (fun _ _ _ _ => ?_) (fun w => absurd ⟨i0, by rw [e2]; omega, by decide, by decide⟩ w)
              rw [t8, ho.1.1, ho.1.2.1]
              refine C_predict hg hp hNe ⟨hs.1.1, hs.1.2.1⟩ hSe hRe e13 ho.2.1 (by decide) (fun θ hFt t13 hRt => ?_)
              have hct := FrR.c hce hFt
              refine ⟨fun y => ⟨by unfold inR; omega, ihe (i + 1) θ (by omega) (by omega) hct t13 hRt (fun j j0 j1 => ?_)⟩, fun y => q0 θ hct t13 hRt (fun x => y (hdue.mpr (x i i0 (by omega))))⟩
              by_cases ej : j = i
              · rw [ej]; exact hdue.mp y
              · exact hall j j0 (by omega)
            have hin := askP_in (v := μ 407 i) (g := μ 408 i) (w := 1) (p := 2) (out := (k : Int)) hp (by decide) ⟨hs.1.1, hs.1.2.1⟩
            refine b_X10_explainsAll_2 hg ⟨fun y => absurd y (by rw [e2]; omega), fun _ => T_at hg Tb_397 (by rw [e2]; omega) (fun _ _ _ _ => ?_) (fun w => absurd ⟨i0, by rw [e2]; omega, by decide, by decide⟩ w)⟩
            rw [t8, ho.1.2.2]
            unfold seenP at row
            refine ⟨fun y => row _ ?_, fun y => row _ ?_⟩
            · constructor
              · intro x
                rw [x, if_neg (by omega)]
              · intro x
                by_cases c9 : askP (μ 399 2) (μ 400) (μ 402) (μ 407 i) (μ 408 i) 1 2 k = -9
                · rw [if_pos c9] at x; exact absurd x y
                · rw [if_neg c9] at x; exact x.symm
            · constructor
              · intro x
                rw [if_pos x]; exact y
              · intro x
                by_cases c9 : askP (μ 399 2) (μ 400) (μ 402) (μ 407 i) (μ 408 i) 1 2 k = -9
                · exact c9
                · rw [if_neg c9] at x; omega
        exact rows (μ 399 13).toNat 0 ξ (by omega) (by decide) hc x13 hRx (fun j j0 j1 => by omega)
      refine ex _ (fun η hce e13 hRe hno => ⟨fun _ => no η (fun y => hno y.2) hce e13 hRe, fun y => absurd rfl y⟩) (fun η hce e13 hRe hall => ⟨fun y => absurd y (by decide), fun _ => ⟨by unfold inR; omega, ?_⟩⟩)
      have i' := ih (k + 1) η (by omega) hce e13 hRe
      unfold setP at i'
      rw [if_pos ⟨z, hall⟩] at i'
      exact i'
  exact key (μ 399 2).toNat 0 ν (by omega) hF.c11 n13 hR
end Quest
