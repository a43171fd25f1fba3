-- the class: those in the way pushed out, a set planned
theorem mid_ok {nd cn b : Int} {of s : Int → Int} (hp : PW nd cn of) (hs : SV nd cn of s) (hb : 0 ≤ b ∧ b < s 2) (hA : bestA cn of (giveP s b) b < 9999) : SR nd cn of (midP cn of s b) ∧ (∀ k, k < 3 → midP cn of s b k = s k) ∧ (∀ o w, 0 ≤ w → w < 20 → o ≠ b → it (midP cn of s b) o w = it s o w) ∧ (∀ w, 0 ≤ w → w < 9 → w ≠ 6 → it (midP cn of s b) b w = it s b w) := by
  have hsg := SV_giveP hs hb.1 (b := b)
  have g2 : giveP s b 2 = s 2 := set1_ne (by omega)
  have hbg : 0 ≤ b ∧ b < giveP s b 2 := by rw [g2]; exact hb
  obtain ⟨h1, h2, h3, h4⟩ := best_ex hp hsg.1 hbg hA
  have y2 : set1 (giveP s b) (3 + 20 * b + 6) 1 2 = giveP s b 2 := set1_ne (by omega)
  have yi : ∀ o' w, 0 ≤ w → w < 20 → w ≠ 6 → it (set1 (giveP s b) (3 + 20 * b + 6) 1) o' w = it (giveP s b) o' w := fun o' w w0 w1 w6 => it_set_ne (by omega) ⟨w0, w1⟩ (Or.inr w6)
  have gi : ∀ o' w, 0 ≤ w → w < 20 → (o' ≠ b ∨ w ≠ 9) → it (giveP s b) o' w = it s o' w := fun o' w w0 w1 hh => it_set_ne (by omega) ⟨w0, w1⟩ hh
  have h0 := hsg.1.1
  unfold midP
  refine ⟨getP_SR (by rw [y2]; exact hbg) (SR_why hb.1 (Or.inr rfl) hsg.1) h2 (fun k hk => ?_), fun k hk => ?_, fun o w w0 w1 hne => ?_, fun w w0 w1 w6 => ?_⟩
  · rw [yi b 0 (by decide) (by decide) (by decide)]
    obtain ⟨a1, a2, a3, a4⟩ := h4 k hk
    exact ⟨a1, a2, by omega, a4⟩
  · rw [getP_lo hb.1 hk]
    exact (set1_ne (by omega)).trans (set1_ne (by omega))
  · rw [getP_it h2 ⟨w0, w1⟩ (Or.inl hne), show it (set1 (giveP s b) (3 + 20 * b + 6) 1) o w = it (giveP s b) o w from it_set_ne (by omega) ⟨w0, w1⟩ (Or.inl hne)]
    exact gi o w w0 w1 (Or.inl hne)
  · rw [getP_it h2 (by omega) (Or.inr w1), yi b w w0 (by omega) w6]
    exact gi b w w0 (by omega) (Or.inr (by omega))
/-- who stands in the way is who is pushed out -/
theorem way_po {nd cn b o : Int} {of s : Int → Int} (hp : PW nd cn of) (hs : SV nd cn of s) (hb : 0 ≤ b ∧ b < s 2) (ho : 0 ≤ o ∧ o < s 2) (hne : o ≠ b) (hA : bestA cn of (giveP s b) b < 9999) (hpr : it (midP cn of s b) o 3 < it (midP cn of s b) b 3) : wayR of (midP cn of s b) o b ↔ poP of (midP cn of s b) b o := by
  obtain ⟨m1, m2, m3, m4⟩ := mid_ok hp hs hb hA
  have hBo := m1.2.2.2.2 o ho.1 (by rw [m2 2 (by decide)]; exact ho.2)
  have hBb := m1.2.2.2.2 b hb.1 (by rw [m2 2 (by decide)]; exact hb.2)
  have h90 := hBb.2.2.2.2.2.2.2.2.2.2.2.2.2.1
  have hh := hBo.2.2.2.2.2.2.2.2.2.2.2.2.2.2.2.1
  have h95 := hBo.2.2.2.2.2.2.2.2.2.2.2.2.2.2.1
  unfold wayR poP meetP
  constructor
  · rintro ⟨k, k0, k1, m, i0, i1, g1, g2, g3⟩
    unfold rwN at i1
    by_cases cm : m < onP (midP cn of s b) b
    · -- not the hop on its way: no tick is taken twice
      rcases onP_in (midP cn of s b) b with ⟨h7, e⟩ | ⟨h7, e⟩
      · omega
      · have em : m = 0 := by omega
        subst em
        rw [(row_on h7).1] at g1 g2
        rw [(row_on h7).2.1] at g2 g3
        have hk := hh k k0 k1
        rw [m4 7 (by decide) (by decide) (by decide)] at g1 g2
        rw [m4 8 (by decide) (by decide) (by decide)] at g2 g3
        rw [m4 0 (by decide) (by decide) (by decide)] at g2
        have eC : hopC (midP cn of s b) o k = hopC s o k := m3 o _ (by omega) (by omega) hne
        have eB : hopB (midP cn of s b) o k = hopB s o k := m3 o _ (by omega) (by omega) hne
        rw [eC] at g1 g3 hk
        rw [eB] at g2 g3 hk
        rw [m3 o 0 (by decide) (by decide) hne] at g3 hk
        rw [m3 o 9 (by decide) (by decide) hne] at k1
        have d := hs.2.2 b o (it s b 7) (if hopB s o k < it s b 8 then it s b 8 else hopB s o k) hb.1 hb.2 ho.1 ho.2 (fun z => hne z.symm) (by omega)
        refine absurd ?_ (d (Or.inl ?_))
        · refine Or.inr ⟨k, k0, k1, g1, ?_, ?_⟩
          · split <;> omega
          · rw [g1] at g3
            have hof := hp.2.2.2.2 _ hk.1 hk.2.1
            have hBs := hs.1.2.2.2.2 o ho.1 ho.2
            have htk := tkD_le hBs.1 hBs.2.1 hof.2.2.2.2.2.2.2.2.2.1 hof.2.2.2.2.2.2.2.2.2.2.1
            rw [g1] at htk
            split <;> omega
        · refine ⟨rfl, ?_, ?_⟩
          · split <;> omega
          · have hBs := hs.1.2.2.2.2 b hb.1 hb.2
            have hof := hp.2.2.2.2 _ hk.1 hk.2.1
            have htk := tkD_le hBs.1 hBs.2.1 hof.2.2.2.2.2.2.2.2.2.1 hof.2.2.2.2.2.2.2.2.2.2.1
            rw [g1] at htk
            split <;> omega
    · have hr := row_hop (s := midP cn of s b) (b := b) (m - onP (midP cn of s b) b) (by omega)
      rw [show onP (midP cn of s b) b + (m - onP (midP cn of s b) b) = m by omega] at hr
      rw [hr.1] at g1 g2
      rw [hr.2] at g2 g3
      rw [g1] at g3
      exact ⟨m - onP (midP cn of s b) b, by omega, by omega, hpr, k, k0, k1, g1.symm, g3, g2⟩
  · rintro ⟨k, k0, k1, -, e, e0, e1, g1, g2, g3⟩
    have hr := row_hop (s := midP cn of s b) (b := b) k k0
    have hon := onP_in (midP cn of s b) b
    refine ⟨e, e0, e1, onP (midP cn of s b) b + k, by omega, by unfold rwN; omega, ?_⟩
    rw [hr.1, hr.2, ← g1]
    exact ⟨rfl, g3, g2⟩
section PlanAll
variable {G : GT} {n : Nat} {μ : Mem}
theorem C_pushOut (hg : gx G = FX) {Q : Int → Nat → Mem → Prop} {nd cn a b x : Int} {of s : Int → Int} (o : St a 7 5) (hp : PW nd cn of) (hs : SV nd cn of s) (hb : 0 ≤ b ∧ b < s 2) (hA : bestA cn of (giveP s b) b < 9999) (h : SRel of (midP cn of s b) μ a x) (hx : st8 x)
    (q : ∀ ν, FrS a μ ν → SRel of (giveAll (midP cn of s b) (poSet of (midP cn of s b) b (s 2).toNat) (s 2).toNat) ν a (iOr x (poSet of (midP cn of s b) b (s 2).toNat)) → Q (poSet of (midP cn of s b) b (s 2).toNat) n ν) : CI G Y_X5_pushOut [.inr 17, .inr a, .inl b] n μ Q := by
  have hm8 := hs.1.2.2.2.1
  have hm0 := hs.1.2.2.1
  obtain ⟨m1, m2, m3, m4⟩ := mid_ok hp hs hb hA
  have oBb := St_SB o hb.1 (b := b) (by omega)
  have hXs : st8 (poSet of (midP cn of s b) b (s 2).toNat) := poSet_st of _ b (by omega)
  have hXm : ∀ j, 0 ≤ j → j < 8 → (msB (poSet of (midP cn of s b) b (s 2).toNat) j ↔ j < ((s 2).toNat : Int) ∧ poP of (midP cn of s b) b j) := fun j j0 j1 => poSet_ms of _ b (by omega) ⟨j0, j1⟩
  have hXb : ¬ msB (poSet of (midP cn of s b) b (s 2).toNat) b := by
    rw [hXm b hb.1 (by omega)]
    rintro ⟨-, k, -, -, z, -⟩
    omega
  have key : ∀ (d k : Nat) (ν : Mem), (k : Int) + d = s 2 → FrS a μ ν → SRel of (giveAll (midP cn of s b) (poSet of (midP cn of s b) b (s 2).toNat) k) ν a (iOr x (poSet of (midP cn of s b) b k)) → B_X5_pushOut_12 G Q n ν a (a + 4 + 1 + 3 * b) (poSet of (midP cn of s b) b k) k := by
    intro d
    induction d with
    | zero =>
      intro k ν e hF hS
      have ek : k = (s 2).toNat := by omega
      rw [ek] at hS ⊢
      exact b_X5_pushOut_12 hg o oBb ⟨fun _ => q ν hF hS, fun z => absurd (by rw [hS.1, giveAll_lo _ _ _ (by decide), m2 2 (by decide)]; omega) z⟩
    | succ d ih =>
      intro k ν e hF hS
      have kb : (0 : Int) ≤ k ∧ (k : Int) < s 2 := by omega
      have lo : ∀ j, j < 3 → giveAll (midP cn of s b) (poSet of (midP cn of s b) b (s 2).toNat) k j = s j := fun j hj => (giveAll_lo _ _ _ hj).trans (m2 j hj)
      have hR : SR nd cn of (giveAll (midP cn of s b) (poSet of (midP cn of s b) b (s 2).toNat) k) := giveAll_SR k m1
      have ws : ∀ o' w, 0 ≤ o' → 0 ≤ w → w < 20 → ((k : Int) ≤ o' ∨ o' = b) → it (giveAll (midP cn of s b) (poSet of (midP cn of s b) b (s 2).toNat) k) o' w = it (midP cn of s b) o' w := by
        intro o' w o0 w0 w1 hh
        by_cases e9 : w = 9
        · rw [e9, giveAll_9 k o' o0, if_neg]
          rintro ⟨z1, z2⟩
          rcases hh with hh | hh
          · omega
          · rw [hh] at z2; exact hXb z2
        · exact giveAll_it k ⟨w0, w1⟩ e9
      have k2 := lo 2 (by decide)
      have hbk : (0 : Int) ≤ k ∧ (k : Int) < giveAll (midP cn of s b) (poSet of (midP cn of s b) b (s 2).toNat) k 2 := by rw [k2]; exact kb
      have hbb : 0 ≤ b ∧ b < giveAll (midP cn of s b) (poSet of (midP cn of s b) b (s 2).toNat) k 2 := by rw [k2]; exact hb
      have oK := St_SB o (b := (k : Int)) (by omega) (by omega)
      have hBk := hR.2.2.2.2 k hbk.1 hbk.2
      have hBb := hR.2.2.2.2 b hbb.1 hbb.2
      have hrk := (hS.2.2.2 k hbk.1 hbk.2).1
      have hrb := (hS.2.2.2 b hbb.1 hbb.2).1
      have hPs : st8 (poSet of (midP cn of s b) b k) := poSet_st of _ b (by omega)
      have p3 : it (giveAll (midP cn of s b) (poSet of (midP cn of s b) b (s 2).toNat) k) k 3 = it (midP cn of s b) k 3 := ws k 3 hbk.1 (by decide) (by decide) (Or.inl (Int.le_refl _))
      have pb3 : it (giveAll (midP cn of s b) (poSet of (midP cn of s b) b (s 2).toNat) k) b 3 = it (midP cn of s b) b 3 := ws b 3 hb.1 (by decide) (by decide) (Or.inr rfl)
      -- it stays
      have stay : ¬ poP of (midP cn of s b) b k → inR ((k : Int) + 1) ∧ B_X5_pushOut_12 G Q n ν a (a + 4 + 1 + 3 * b) (poSet of (midP cn of s b) b k) ((k : Int) + 1) := by
        intro hn
        refine ⟨by unfold inR; omega, ?_⟩
        have i := ih (k + 1) ν (by omega) hF
        have e1 : giveAll (midP cn of s b) (poSet of (midP cn of s b) b (s 2).toNat) (k + 1) = giveAll (midP cn of s b) (poSet of (midP cn of s b) b (s 2).toNat) k := if_neg (fun z => hn ((hXm k hbk.1 (by omega)).mp z).2)
        have e2 : poSet of (midP cn of s b) b (k + 1) = poSet of (midP cn of s b) b k := by
          show iOr _ _ = _
          rw [if_neg hn, iOr_0 hPs]
        rw [e1, e2] at i
        exact i hS
      refine b_X5_pushOut_12 hg o oBb ⟨fun z => absurd z (by rw [hS.1, k2]; omega), fun _ => S_bundleAt hg o ⟨by omega, by omega⟩ ⟨oK, ?_⟩⟩
      rw [hrk.2.2.2.2.1, hrb.2.2.2.2.1, p3, pb3, hS.2.1]
      refine ⟨fun z => stay (fun y => ?_), fun z => ?_⟩
      · obtain ⟨i, -, -, y, -⟩ := y
        omega
      · have hne : (k : Int) ≠ b := fun y => by rw [y] at z; omega
        have hvk := hs.2.1 k kb.1 kb.2
        have hBs := hs.1.2.2.2.2 k kb.1 kb.2
        have eq : EqB s (giveAll (midP cn of s b) (poSet of (midP cn of s b) b (s 2).toNat) k) k := fun w w0 w1 _ => (ws k w hbk.1 w0 w1 (Or.inl (Int.le_refl _))).trans (m3 k w w0 w1 hne)
        have hC := CH_eq eq hBs hvk.1
        have hW := NW_eq eq (lo 0 (by decide)) hBs hvk.2
        have hh := hBk.2.2.2.2.2.2.2.2.2.2.2.2.2.2.1
        have hbb9 := hBb.2.2.2.2.2.2.2.2.2.2.2.2.2.2.1
        have hwr : wayR of (giveAll (midP cn of s b) (poSet of (midP cn of s b) b (s 2).toNat) k) k b ↔ wayR of (midP cn of s b) k b := by
          have wk : ∀ w, 0 ≤ w → w < 20 → it (giveAll (midP cn of s b) (poSet of (midP cn of s b) b (s 2).toNat) k) k w = it (midP cn of s b) k w := fun w w0 w1 => ws k w hbk.1 w0 w1 (Or.inl (Int.le_refl _))
          have wb : ∀ w, 0 ≤ w → w < 20 → it (giveAll (midP cn of s b) (poSet of (midP cn of s b) b (s 2).toNat) k) b w = it (midP cn of s b) b w := fun w w0 w1 => ws b w hb.1 w0 w1 (Or.inr rfl)
          have eN : rwN (giveAll (midP cn of s b) (poSet of (midP cn of s b) b (s 2).toNat) k) b = rwN (midP cn of s b) b := by unfold rwN onP; rw [wb 7 (by decide) (by decide), wb 9 (by decide) (by decide)]
          have eR : ∀ m, 0 ≤ m → m < rwN (midP cn of s b) b → rwC (giveAll (midP cn of s b) (poSet of (midP cn of s b) b (s 2).toNat) k) b m = rwC (midP cn of s b) b m ∧ rwB (giveAll (midP cn of s b) (poSet of (midP cn of s b) b (s 2).toNat) k) b m = rwB (midP cn of s b) b m := by
            intro m i0 i1
            rw [← eN] at i1
            have hrn := rwN_in hBb
            unfold rwN at i1
            rw [wb 9 (by decide) (by decide)] at hbb9
            have hon := onP_in (giveAll (midP cn of s b) (poSet of (midP cn of s b) b (s 2).toNat) k) b
            rw [wb 9 (by decide) (by decide)] at i1
            unfold rwC rwB hopC hopB
            rw [wb 7 (by decide) (by decide), wb 8 (by decide) (by decide)] at *
            by_cases c7 : it (midP cn of s b) b 7 = -9
            · rw [if_pos c7, if_pos c7, if_pos c7, if_pos c7]
              exact ⟨wb _ (by omega) (by omega), wb _ (by omega) (by omega)⟩
            · rw [if_neg c7, if_neg c7, if_neg c7, if_neg c7]
              by_cases c0 : m = 0
              · rw [if_pos c0, if_pos c0, if_pos c0, if_pos c0]
                exact ⟨rfl, rfl⟩
              · rw [if_neg c0, if_neg c0, if_neg c0, if_neg c0]
                exact ⟨wb _ (by omega) (by omega), wb _ (by omega) (by omega)⟩
          rw [wk 9 (by decide) (by decide)] at hh
          have eC : ∀ i, 0 ≤ i → i < it (midP cn of s b) k 9 → hopC (giveAll (midP cn of s b) (poSet of (midP cn of s b) b (s 2).toNat) k) k i = hopC (midP cn of s b) k i ∧ hopB (giveAll (midP cn of s b) (poSet of (midP cn of s b) b (s 2).toNat) k) k i = hopB (midP cn of s b) k i := fun i i0 i1 => ⟨wk _ (by omega) (by omega), wk _ (by omega) (by omega)⟩
          unfold wayR
          rw [eN, wk 9 (by decide) (by decide), wk 0 (by decide) (by decide), wb 0 (by decide) (by decide)]
          constructor
          · rintro ⟨i, i0, i1, m, j0, j1, z1⟩
            rw [(eC i i0 i1).1, (eC i i0 i1).2, (eR m j0 j1).1, (eR m j0 j1).2] at z1
            exact ⟨i, i0, i1, m, j0, j1, z1⟩
          · rintro ⟨i, i0, i1, m, j0, j1, z1⟩
            rw [← (eC i i0 i1).1, ← (eC i i0 i1).2, ← (eR m j0 j1).1, ← (eR m j0 j1).2] at z1
            exact ⟨i, i0, i1, m, j0, j1, z1⟩
        have hwp := hwr.trans (way_po hp hs hb kb hne hA (by omega))
        refine S_stands hg oK oBb hp hBk hrk hC hW hBb hrb (fun y => ⟨fun _ => stay (fun u => y (hwp.mpr u)), fun u => absurd rfl u⟩) (fun y => ⟨fun u => absurd u (by decide), fun _ => ?_⟩)
        have hpo := hwp.mp y
        rw [hS.2.1]
        refine S_giveUp hg oK hBk hrk hW (fun ξ hFx hxv hbr => ⟨by unfold inR; omega, ?_⟩)
        have i := ih (k + 1) ξ (by omega) (hF.b ⟨by omega, by omega⟩ hFx)
        have e1 : giveAll (midP cn of s b) (poSet of (midP cn of s b) b (s 2).toNat) (k + 1) = giveP (giveAll (midP cn of s b) (poSet of (midP cn of s b) b (s 2).toNat) k) k := if_pos ((hXm k hbk.1 (by omega)).mpr ⟨by omega, hpo⟩)
        have e2 : poSet of (midP cn of s b) b (k + 1) = iOr (poSet of (midP cn of s b) b k) (iShl 1 k) := by
          show iOr _ _ = _
          rw [if_pos hpo]
        have hP1 : st8 (poSet of (midP cn of s b) b (k + 1)) := poSet_st of _ b (by omega)
        rw [e1, e2] at i
        refine i (SRel_one hR hS hbk hFx (fun j hj => set1_ne (by omega)) (fun o' o0 o1 hne' w w0 w1 => it_set_ne (by omega) ⟨w0, w1⟩ (Or.inl hne')) hbr (fun o' o0 o1 hne' z' => ?_) (fun z' _ => absurd ?_ z'))
        · rw [k2] at o1
          rw [ms_or hx hPs ⟨o0, by omega⟩] at z'
          rw [← e2, ms_or hx hP1 ⟨o0, by omega⟩, e2, ms_or hPs (shl_st ⟨hbk.1, by omega⟩) ⟨o0, by omega⟩]
          rcases z' with z' | z'
          · exact Or.inl z'
          · exact Or.inr (Or.inl z')
        · rw [← e2, ms_or hx hP1 ⟨hbk.1, by omega⟩, e2, ms_or hPs (shl_st ⟨hbk.1, by omega⟩) ⟨hbk.1, by omega⟩, ms_shl ⟨hbk.1, by omega⟩ ⟨hbk.1, by omega⟩]
          exact Or.inr (Or.inr rfl)
  refine m_X5_pushOut hg o (S_bundleAt hg o ⟨hb.1, by omega⟩ ⟨oBb, key (s 2).toNat 0 μ (by omega) FrS.rf ?_⟩)
  have e0 : iOr x (poSet of (midP cn of s b) b 0) = x := iOr_0 hx
  rw [e0]
  exact h
theorem C_firstOf (hg : gx G = FX) {Q : Int → Nat → Mem → Prop} {nd cn a x x' : Int} {of s : Int → Int} (o : St a 7 5) (hs : SR nd cn of s) (h : SRel of s μ a x') (hx : ∃ j, 0 ≤ j ∧ j < s 2 ∧ msB x j) (q : ∀ b, PickP s x (s 2) b → Q b n μ) : CI G Y_X5_firstOf [.inr 17, .inr a, .inl x] n μ Q := by
  have hm8 := hs.2.2.2.1
  have hm0 := hs.2.2.1
  have key : ∀ (d : Nat) (k f hi : Int), k + d = s 2 → 0 ≤ k → ((f = 0 ∧ hi = -1 ∧ ∀ j, 0 ≤ j → j < k → ¬ msB x j) ∨ (PickP s x k f ∧ hi = it s f 3)) → B_X5_firstOf_8 G Q n μ a x f hi k := by
    intro d
    induction d with
    | zero =>
      intro k f hi e k0 hI
      have ek : k = s 2 := by omega
      subst ek
      refine b_X5_firstOf_8 hg o ⟨fun _ => ?_, fun z => absurd (by rw [h.1]; omega) z⟩
      rcases hI with ⟨-, -, hn⟩ | ⟨hP, -⟩
      · obtain ⟨j, j0, j1, hj⟩ := hx
        exact absurd hj (hn j j0 j1)
      · exact q f hP
    | succ d ih =>
      intro k f hi e k0 hI
      have oB := St_SB o k0 (b := k) (by omega)
      have hB := hs.2.2.2.2 k k0 (by omega)
      have hbr := (h.2.2.2 k k0 (by omega)).1
      refine b_X5_firstOf_8 hg o ⟨fun z => absurd z (by rw [h.1]; omega), fun _ => S_bundleAt hg o ⟨k0, by omega⟩ ⟨oB, ?_⟩⟩
      rw [hbr.2.2.2.2.1]
      refine ⟨fun z => ⟨by unfold inR; omega, ih (k + 1) f hi (by omega) (by omega) ?_⟩, fun z => ⟨fun y => ⟨by unfold inR; omega, ih (k + 1) f hi (by omega) (by omega) ?_⟩, fun y => ⟨by unfold inR; omega, ih (k + 1) k (it s k 3) (by omega) (by omega) ?_⟩⟩⟩
      · rcases hI with ⟨h1, h2, h3⟩ | ⟨⟨h1, h2, h3, h4⟩, h5⟩
        · refine Or.inl ⟨h1, h2, fun j j0 j1 => ?_⟩
          by_cases ej : j = k
          · rw [ej]; exact z
          · exact h3 j j0 (by omega)
        · refine Or.inr ⟨⟨h1, by omega, h3, fun j j0 j1 hj => ?_⟩, h5⟩
          by_cases ej : j = k
          · rw [ej] at hj; exact absurd hj z
          · exact h4 j j0 (by omega) hj
      · rcases hI with ⟨h1, h2, h3⟩ | ⟨⟨h1, h2, h3, h4⟩, h5⟩
        · have := hB.2.2.2.2.2.2.1
          omega
        · refine Or.inr ⟨⟨h1, by omega, h3, fun j j0 j1 hj => ?_⟩, h5⟩
          by_cases ej : j = k
          · rw [ej]; exact ⟨by omega, fun _ => by omega⟩
          · exact h4 j j0 (by omega) hj
      · rcases hI with ⟨h1, h2, h3⟩ | ⟨⟨h1, h2, h3, h4⟩, h5⟩
        · refine Or.inr ⟨⟨k0, by omega, z, fun j j0 j1 hj => ?_⟩, rfl⟩
          by_cases ej : j = k
          · rw [ej]; exact ⟨by omega, fun _ => by omega⟩
          · exact absurd hj (h3 j j0 (by omega))
        · refine Or.inr ⟨⟨k0, by omega, z, fun j j0 j1 hj => ?_⟩, rfl⟩
          by_cases ej : j = k
          · rw [ej]; exact ⟨by omega, fun _ => by omega⟩
          · have := (h4 j j0 (by omega) hj).1
            exact ⟨by omega, fun w => by omega⟩
  exact m_X5_firstOf hg o (key (s 2).toNat 0 0 (-1) (by omega) (by decide) (Or.inl ⟨rfl, rfl, fun j j0 j1 => by omega⟩))
/-- who is open stays so when another is planned -/
theorem open_planP {nd cn b j : Int} {of s : Int → Int} (hp : PW nd cn of) (hs : SR nd cn of s) (hb : 0 ≤ b ∧ b < s 2) : stateP of (planP cn of s b).1 j ≤ 1 ↔ stateP of s j ≤ 1 := by
  have hk := planP_ok hp hs hb
  rw [stateP_open, stateP_open, planP_it hp hs hb (by decide) (Or.inr (by decide)) (by decide), planP_it hp hs hb (by decide) (Or.inr (by decide)) (by decide), planP_it hp hs hb (by decide) (Or.inr (by decide)) (by decide), planP_it hp hs hb (by decide) (Or.inr (by decide)) (by decide), planP_it hp hs hb (by decide) (Or.inr (by decide)) (by decide), hk.2.1 0 (by decide)]
theorem C_planAll (hg : gx G = FX) {nd cn a : Int} {of : Int → Int} (o : St a 7 5) (hp : PW nd cn of) {Q : Nat → Mem → Prop} {μ0 : Mem} {s' : Int → Int} (hN0 : NRel n μ0 7 nd cn of) (q : ∀ ν, FrL a μ0 ν → (0 ≤ ν 13 2 ∧ ν 13 2 ≤ 6) → SRel of s' ν a 0 → Q n ν) :
    ∀ (r : Nat) (s : Int → Int) (x rd : Int) (μ : Mem), SV nd cn of s → st8 x → (∀ j, 0 ≤ j → j < 8 → msB x j → j < s 2 ∧ stateP of s j ≤ 1) → SRel of s μ a x → PA cn of r s x s' → 0 ≤ rd → r + rd ≤ 8 → FrL a μ0 μ → (0 ≤ μ 13 2 ∧ μ 13 2 ≤ 6) → B_X5_planAll_5 G Q n μ a x rd := by
  intro r
  induction r with
  | zero =>
    intro s x rd μ hs hx hop h hPA r0 r8 hF h13
    obtain ⟨rfl, rfl⟩ := hPA
    exact b_X5_planAll_5 hg o ⟨fun _ => q μ hF h13 h, fun _ => ⟨fun _ => q μ hF h13 h, fun z => absurd rfl z⟩⟩
  | succ r ih =>
    intro s x rd μ hs hx hop h hPA r0 r8 hF h13
    obtain ⟨b, hb, hPA⟩ := hPA
    have hm8 := hs.1.2.2.2.1
    have hN := NRel_L o hF hN0
    have hbs : 0 ≤ b ∧ b < s 2 := ⟨hb.1, hb.2.1⟩
    have hxn : x ≠ 0 := fun z => by
      have := hb.2.2.1
      rw [z] at this
      exact ms_0 ⟨hb.1, by omega⟩ this
    have hbo := hop b hb.1 (by omega) hb.2.2.1
    have hxb8 : st8 (iAnd x (iXor (iShl 1 b) (-1))) := st_and hx ⟨hb.1, by omega⟩
    have hok := planP_ok hp hs.1 hbs
    have hSV := planP_SV hp hs hbs
    have hop' : ∀ j, 0 ≤ j → j < 8 → msB (iOr (iAnd x (iXor (iShl 1 b) (-1))) (planP cn of s b).2) j → j < (planP cn of s b).1 2 ∧ stateP of (planP cn of s b).1 j ≤ 1 := by
      intro j j0 j1 hj
      rw [ms_or hxb8 hok.2.2 ⟨j0, j1⟩, ms_and hx ⟨hb.1, by omega⟩ ⟨j0, j1⟩] at hj
      rw [open_planP hp hs.1 hbs, hok.2.1 2 (by decide)]
      rcases hj with ⟨hj, -⟩ | hj
      · exact hop j j0 j1 hj
      · have hpo := planP_po hp hs.1 hbs ⟨j0, j1⟩ hj
        have hv := hs.2.1 j j0 hpo.1
        exact ⟨hpo.1, CH_open hp (hs.1.2.2.2.2 j j0 hpo.1) hv.1 hv.2 hpo.2.2.2⟩
    have hst := next_st hp hs.1 hbs hx
    refine b_X5_planAll_5 hg o ⟨fun z => absurd z (by omega), fun _ => ⟨fun z => absurd z hxn, fun _ => C_firstOf hg o hs.1 h ⟨b, hb.1, hb.2.1, hb.2.2.1⟩ (fun b' hb' => ?_)⟩⟩
    rw [PickP_one hb' hb]
    refine C_planOne hg o hp hN hs h hx hbs hb.2.2.1 hbo.2 h13 (fun h2 ν hFν h13ν hSν => ⟨fun _ => ⟨by unfold inR; omega, ?_⟩, fun z => absurd rfl z⟩) (fun hpl hA ν hFν h13ν hSν => ⟨fun z => absurd z (by decide), fun _ => ?_⟩)
    · rw [h2, iOr_0 hxb8] at hPA hop' hst
      exact ih _ _ (rd + 1) ν hSV hst hop' hSν hPA (by omega) (by omega) (hF.tr hFν) h13ν
    · rw [hpl] at hPA hop' hst hSV
      refine C_pushOut hg o hp hs hbs hA hSν hxb8 (fun ξ hFx hSx => ⟨by unfold inR; omega, ?_⟩)
      have hSt := St_S o
      exact ih _ _ (rd + 1) ξ hSV hst hop' hSx hPA (by omega) (by omega) ((hF.tr hFν).s hFx) (by rw [hFx 13 (by omega)]; exact h13ν)
end PlanAll
/-- planning a set is planning those of it that are open -/
theorem PA_open {nd cn : Int} {of : Int → Int} (hp : PW nd cn of) : ∀ (r : Nat) {s s' : Int → Int} {x : Int}, SV nd cn of s → st8 x → PA cn of r s x s' → ∃ r', r' ≤ r ∧ PA cn of r' s (opX of s x) s' := by
  intro r
  induction r with
  | zero =>
    intro s s' x hs hx h
    obtain ⟨rfl, rfl⟩ := h
    refine ⟨0, Nat.le_refl _, ?_, rfl⟩
    have hm8 := hs.1.2.2.2.1
    refine st_ext0 (setP_st _ (by omega)) (fun j j0 j1 z => ?_)
    have := (setP_ms (p := fun b => msB 0 b ∧ stateP of s' b ≤ 1) (m := (s' 2).toNat) (by omega) ⟨j0, j1⟩).mp z
    exact ms_0 ⟨j0, j1⟩ this.2.1
  | succ r ih =>
    intro s s' x hs hx h
    obtain ⟨b, hb, hPA⟩ := h
    have hm8 := hs.1.2.2.2.1
    have hm0 := hs.1.2.2.1
    have hbs : 0 ≤ b ∧ b < s 2 := ⟨hb.1, hb.2.1⟩
    have hv := hs.2.1 b hbs.1 hbs.2
    have hB := hs.1.2.2.2.2 b hbs.1 hbs.2
    have hxb8 : st8 (iAnd x (iXor (iShl 1 b) (-1))) := st_and hx ⟨hb.1, by omega⟩
    have oms : ∀ (y : Int) (t : Int → Int) (j : Int), t 2 ≤ 8 → 0 ≤ j → j < 8 → (msB (opX of t y) j ↔ j < ((t 2).toNat : Int) ∧ msB y j ∧ stateP of t j ≤ 1) := fun y t j ht j0 j1 => setP_ms (p := fun b => msB y b ∧ stateP of t b ≤ 1) (m := (t 2).toNat) (by omega) ⟨j0, j1⟩
    by_cases c : stateP of s b ≤ 1
    · -- open
      have hok := planP_ok hp hs.1 hbs
      obtain ⟨r', hr', h'⟩ := ih (planP_SV hp hs hbs) (next_st hp hs.1 hbs hx) hPA
      refine ⟨r' + 1, Nat.succ_le_succ hr', b, ⟨hb.1, hb.2.1, (oms x s b hm8 hb.1 (by omega)).mpr ⟨by omega, hb.2.2.1, c⟩, fun j j0 j1 hj => hb.2.2.2 j j0 j1 ((oms x s j hm8 j0 (by omega)).mp hj).2.1⟩, ?_⟩
      have e : opX of (planP cn of s b).1 (iOr (iAnd x (iXor (iShl 1 b) (-1))) (planP cn of s b).2) = iOr (iAnd (opX of s x) (iXor (iShl 1 b) (-1))) (planP cn of s b).2 := by
        have hp2 : (planP cn of s b).1 2 = s 2 := hok.2.1 2 (by decide)
        have ho8 : st8 (opX of s x) := setP_st _ (by omega)
        refine st_ext (setP_st _ (by omega)) (iOr_st (st_and ho8 ⟨hb.1, by omega⟩) hok.2.2) (fun j j0 j1 => ?_)
        rw [oms _ _ j (by omega) j0 j1, ms_or hxb8 hok.2.2 ⟨j0, j1⟩, ms_and hx ⟨hb.1, by omega⟩ ⟨j0, j1⟩, ms_or (st_and ho8 ⟨hb.1, by omega⟩) hok.2.2 ⟨j0, j1⟩, ms_and ho8 ⟨hb.1, by omega⟩ ⟨j0, j1⟩, oms x s j hm8 j0 j1, open_planP hp hs.1 hbs, hp2]
        constructor
        · rintro ⟨z1, (⟨z2, z3⟩ | z2), z4⟩
          · exact Or.inl ⟨⟨z1, z2, z4⟩, z3⟩
          · exact Or.inr z2
        · rintro (⟨⟨z1, z2, z4⟩, z3⟩ | z2)
          · exact ⟨z1, Or.inl ⟨z2, z3⟩, z4⟩
          · have hpo := planP_po hp hs.1 hbs ⟨j0, j1⟩ z2
            have hvj := hs.2.1 j j0 hpo.1
            exact ⟨by omega, Or.inr z2, CH_open hp (hs.1.2.2.2.2 j j0 hpo.1) hvj.1 hvj.2 hpo.2.2.2⟩
      rw [e] at h'
      exact h'
    · -- closed: nothing happens
      have h9 : it s b 9 = 0 := by
        have h90 := hB.2.2.2.2.2.2.2.2.2.2.2.2.2.1
        by_cases c9 : 0 < it s b 9
        · exact absurd (CH_open hp hB hv.1 hv.2 c9) c
        · omega
      have eg : giveP s b = s := by
        have := set1_same s (3 + 20 * b + 9)
        unfold giveP
        rw [show (0 : Int) = s (3 + 20 * b + 9) from h9.symm]
        exact this
      have hin := stateP_in (of := of) (s := s) (b := b)
      have hpl : planP cn of s b = (s, 0) := by
        unfold planP
        rw [eg, if_pos (by omega)]
      rw [hpl] at hPA
      have hPA' : PA cn of r s (iOr (iAnd x (iXor (iShl 1 b) (-1))) 0) s' := hPA
      have h00 : st8 0 := ⟨by decide, by decide⟩
      obtain ⟨r', hr', h'⟩ := ih hs (iOr_st hxb8 h00) hPA'
      refine ⟨r', Nat.le_succ_of_le hr', ?_⟩
      have e : opX of s (iOr (iAnd x (iXor (iShl 1 b) (-1))) 0) = opX of s x := by
        refine st_ext (setP_st _ (by omega)) (setP_st _ (by omega)) (fun j j0 j1 => ?_)
        rw [oms _ s j hm8 j0 j1, oms x s j hm8 j0 j1, iOr_0 hxb8, ms_and hx ⟨hb.1, by omega⟩ ⟨j0, j1⟩]
        constructor
        · rintro ⟨z1, ⟨z2, -⟩, z3⟩; exact ⟨z1, z2, z3⟩
        · rintro ⟨z1, z2, z3⟩
          refine ⟨z1, ⟨z2, fun ej => ?_⟩, z3⟩
          rw [ej] at z3
          exact c z3
      rw [e] at h'
      exact h'
