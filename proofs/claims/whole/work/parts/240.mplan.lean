-- the model: plan, whole
theorem itemP_c8 {L items nd cn p : Int} {x rd : Int → Int} (h : x p = 99) (hc : ¬ cn < 8) : itemP L x items nd cn rd p = .inl p := by
  unfold itemP
  rw [if_neg (by omega), if_pos h, if_neg hc]
theorem itemP_c0 {L items nd cn p q : Int} {x rd : Int → Int} (h : x p = 99) (hc : cn < 8) (hq : contactP L x nd (p + 1) = .inl q) : itemP L x items nd cn rd p = .inl q := by
  unfold itemP
  rw [if_neg (by omega), if_pos h, if_pos hc, hq]
theorem itemP_c1 {L items nd cn p : Int} {x rd : Int → Int} {r : (Int × Int × Int × Int × Int × Int) × Int} (h : x p = 99) (hc : cn < 8) (hq : contactP L x nd (p + 1) = .inr r) : itemP L x items nd cn rd p = .inr (nd, cn + 1, set6 rd (6 * cn) r.1, r.2) := by
  unfold itemP
  rw [if_neg (by omega), if_pos h, if_pos hc, hq]
theorem itemP_n8 {L items nd cn p : Int} {x rd : Int → Int} (h : x p = 110) (hc : ¬ items = 0) : itemP L x items nd cn rd p = .inl p := by
  unfold itemP
  rw [if_pos h, if_neg hc]
theorem itemP_n0 {L items nd cn p q : Int} {x rd : Int → Int} (h : x p = 110) (hc : items = 0) (hq : numP L x 2 6 (-1) (p + 1) = .inl q) : itemP L x items nd cn rd p = .inl q := by
  unfold itemP
  rw [if_pos h, if_pos hc, hq]
theorem itemP_n1 {L items nd cn p : Int} {x rd : Int → Int} {r : Int × Int} (h : x p = 110) (hc : items = 0) (hq : numP L x 2 6 (-1) (p + 1) = .inr r) : itemP L x items nd cn rd p = .inr (r.1, cn, rd, r.2) := by
  unfold itemP
  rw [if_pos h, if_pos hc, hq]
theorem numP_q {L lo hi ba p q : Int} {x : Int → Int} (hp : 0 ≤ p ∧ p ≤ L) (h : numP L x lo hi ba p = .inl q) : 0 ≤ q ∧ q ≤ L := by
  have h1 := (numP_no h).1
  have h2 := skP_ge (L := L) (x := x) p
  have := h2.2.1 hp.2
  omega
theorem contactP_q {L nd p q : Int} {x : Int → Int} (hp : 0 ≤ p ∧ p ≤ L) (hq : contactP L x nd p = .inl q) : 0 ≤ q ∧ q ≤ L := by
  unfold contactP at hq
  cases h1 : numP L x 0 (nd - 1) (-1) p with
  | inl q' => rw [h1] at hq; cases hq; exact numP_q hp h1
  | inr r1 =>
    have b1 := numP_pos hp h1 (by decide)
    rw [h1] at hq
    simp only at hq
    cases h2 : numP L x 0 (nd - 1) r1.1 r1.2 with
    | inl q' => rw [h2] at hq; cases hq; exact numP_q (by omega) h2
    | inr r2 =>
      have b2 := numP_pos ⟨by omega, by omega⟩ h2 (by decide)
      rw [h2] at hq
      simp only at hq
      cases h3 : numP L x 0 98 (-1) r2.2 with
      | inl q' => rw [h3] at hq; cases hq; exact numP_q (by omega) h3
      | inr r3 =>
        have b3 := numP_pos ⟨by omega, by omega⟩ h3 (by decide)
        have k3 := numP_ok h3
        rw [h3] at hq
        simp only at hq
        cases h4' : numP L x (r3.1 + 1) 99 (-1) r3.2 with
        | inl q' => rw [h4'] at hq; cases hq; exact numP_q (by omega) h4'
        | inr r4 =>
          have b4 := numP_pos ⟨by omega, by omega⟩ h4' (by omega)
          rw [h4'] at hq
          simp only at hq
          cases h5' : numP L x 1 9 (-1) r4.2 with
          | inl q' => rw [h5'] at hq; cases hq; exact numP_q (by omega) h5'
          | inr r5 =>
            have b5 := numP_pos ⟨by omega, by omega⟩ h5' (by decide)
            rw [h5'] at hq
            simp only at hq
            cases h6 : numP L x 0 9 (-1) r5.2 with
            | inl q' => rw [h6] at hq; cases hq; exact numP_q (by omega) h6
            | inr r6 => rw [h6] at hq; cases hq
section MPlan2
variable {G : GT} {n : Nat} {μ : Mem}
theorem S_readsNodes (hg : gx G = FX) {Q : Int → Nat → Mem → Prop} {L items : Int} {x : Int → Int} (hx : TxP L x) (eL : μ 399 17 = L) (ex : μ 410 = x) (hp : 0 ≤ μ 399 19 ∧ μ 399 19 ≤ L)
    (q8 : 0 < items → Q 0 n μ) (q0 : items ≤ 0 → ∀ q, numP L x 2 6 (-1) (μ 399 19) = .inl q → ∀ ν, FrD μ ν → ν 399 20 = q → Q 0 n ν)
    (q1 : items ≤ 0 → ∀ r, numP L x 2 6 (-1) (μ 399 19) = .inr r → ∀ ν, FrD μ ν → ν 399 19 = r.2 → ν 399 4 = r.1 → ν 399 5 = μ 399 5 → ν 401 = μ 401 → Q 1 n ν) : CI G Y_X11_readsNodes [.inr 399, .inl items] n μ Q := by
  refine m_X11_readsNodes hg ⟨fun c => S_takes hg hx eL ex hp (fun ν hF h20 h21 h19 => ?_), fun c => q8 (by omega)⟩
  obtain ⟨f10, f17, f01, f4, f5⟩ := hF.r
  have hs := skP_ge (L := L) (x := x) (μ 399 19)
  have htk := tokP_in hx (q := skP L x (μ 399 19)) (by omega) (hs.2.1 hp.2)
  have fin0 : ∀ v, ¬ (1002 ≤ ν 399 21 ∧ ν 399 21 ≤ 1006) → B_X11_readsNodes_42 G Q n ν v 399 := by
    intro v hno
    refine b_X11_readsNodes_42 hg St_399 ?_
    rw [show (up ν 399 4 v) 399 21 = ν 399 21 from up_oth (by decide)]
    refine S_in hg (fun z => ⟨Or.inl rfl, q0 c (skP L x (μ 399 19)) ?_ _ ((FrD.rf.t hF).f (by decide)) (by rw [up_oth (by decide), h20])⟩) (fun z => absurd z hno)
    unfold numP
    rw [if_neg (fun z => hno (by omega))]
  have fin1 : (1002 ≤ ν 399 21 ∧ ν 399 21 ≤ 1006) → B_X11_readsNodes_42 G Q n ν (ν 399 21 - 1000) 399 := by
    intro hy
    refine b_X11_readsNodes_42 hg St_399 ?_
    rw [show (up ν 399 4 (ν 399 21 - 1000)) 399 21 = ν 399 21 from up_oth (by decide)]
    refine S_in hg (fun z => absurd hy z) (fun z => ⟨Or.inr rfl, q1 c (tokP L x (skP L x (μ 399 19)) - 1000, nxtP L x (skP L x (μ 399 19))) ?_ _ ((FrD.rf.t hF).f (by decide)) (by rw [up_oth (by decide), h19]) (by rw [up_self, h21]) (by rw [up_oth (by decide), f5]) (by rw [up_ne (by decide), f01])⟩)
    unfold numP
    rw [if_pos (by omega)]
  refine S_in hg (fun z => ⟨fun _ => fin0 _ z, fun w => absurd rfl w⟩) (fun z => ⟨fun w => absurd w (by decide), fun _ => ⟨by omega, fin1 z⟩⟩)
/-- the model behind a plan that could be read -/
def PlanP (μ ν : Mem) (nd cn : Int) (rd : Int → Int) : Prop :=
  (∀ a, a ≠ 399 → a ≠ 400 → a ≠ 401 → a ≠ 402 → a ≠ 405 → ν a = μ a) ∧ ν 399 1 = nd ∧ ν 399 2 = cn ∧ ν 399 8 = 0 ∧ ν 399 13 = 0 ∧ ν 399 17 = 0 ∧ (∀ j, 0 ≤ j → j < 48 → ν 400 j = rd j) ∧ ν 402 0 = 0 ∧ ν 402 1 = 0 ∧ ν 402 2 = 0 ∧ ν 405 0 = 0 ∧ ν 405 1 = 0
theorem S_plan (hg : gx G = FX) {Q : Int → Nat → Mem → Prop} {L : Int} {x : Int → Int} (hx : TxP L x) (eL : μ 399 17 = L) (ex : μ 410 = x)
    (q0 : ∀ q, textP L x (μ 401) = .inl q → ∀ ν, FrD μ ν → Q (-10 - q) n ν)
    (q1 : ∀ r, textP L x (μ 401) = .inr r → ∀ ν, PlanP μ ν r.2.1 r.2.2.1 r.2.2.2 → Q r.1 n ν) : CI G Y_X11_plan [.inr 399] n μ Q := by
  have hL := hx.2.1
  have hL0 := hx.1
  have loop : ∀ (k : Nat) (items nd cn p : Int) (rd : Int → Int) (ν : Mem), L - p < k → 0 ≤ items → items ≤ p → p ≤ L → ¬ (p < L ∧ x p = 32) → PW nd cn rd → (items = 0 → cn = 0) → FrD μ ν → ν 399 20 = p → ν 399 21 = tokP L x p → ν 399 19 = nxtP L x p → ν 399 4 = nd → ν 399 5 = cn → ν 401 = rd →
      runP L x k items nd cn rd p = textP L x (μ 401) → B_X11_plan_20 G Q n ν items := by
    intro k
    induction k with
    | zero => intro items nd cn p rd ν h; omega
    | succ k ih =>
      intro items nd cn p rd ν hk hi hip hpL hbl hPW hi0 hF h20 h21 h19 h4 h5 h01 hrun
      obtain ⟨f10, f17⟩ := hF.x
      have hp0 : 0 ≤ p := by omega
      have htk := tokP_in hx hp0 hpL
      unfold runP at hrun
      by_cases hend : L ≤ p
      · rw [if_pos hend] at hrun
        refine b_X11_plan_20 hg ⟨fun _ => S_becomes hg (fun ξ g1 g2 g3 g4 g5 g6 g7 g8 g9 g10 g11 g12 => ?_), fun z => absurd (by rw [h21]; exact htk.2.2.mpr hend) z⟩
        refine q1 (items, nd, cn, rd) hrun.symm _ ⟨fun a a1 a2 a3 a4 a5 => ?_, ?_, ?_, ?_, ?_, ?_, fun j j0 j1 => ?_, ?_, ?_, ?_, ?_, ?_⟩
        · rw [up_ne a1, g1 a a1 a2 a4 a5, hF.1 a a1 a3]
        · rw [up_oth (by decide), g3, h4]
        · rw [up_oth (by decide), g4, h5]
        · rw [up_oth (by decide), g5]
        · rw [up_oth (by decide), g6]
        · rw [up_self]
        · rw [up_ne (by decide), g7 j j0 j1, h01]
        · rw [up_ne (by decide), g8]
        · rw [up_ne (by decide), g9]
        · rw [up_ne (by decide), g10]
        · rw [up_ne (by decide), g11]
        · rw [up_ne (by decide), g12]
      rw [if_neg hend] at hrun
      have hdig : ¬ (digP L x p) → tokP L x p = x p ∧ nxtP L x p = p + 1 := fun hd => by
        unfold tokP nxtP
        rw [if_neg hend, if_neg hend, if_neg hd, if_neg hd]
        exact ⟨rfl, rfl⟩
      have hdig2 : digP L x p → 1000 ≤ tokP L x p := fun hd => by
        have := deP_ge (L := L) (x := x) p 0 hpL (by decide)
        unfold tokP
        rw [if_neg hend, if_pos hd]
        split
        · decide
        · omega
      -- it is a fault
      have bad : ∀ (q : Int) (ξ : Mem), textP L x (μ 401) = .inl q → FrD μ ξ → ξ 399 20 = q → 0 ≤ q → q ≤ 200 → B_X11_plan_66 G Q n ξ items 0 := by
        intro q ξ hq hFx hx20 hq0 hq1
        refine b_X11_plan_66 hg ⟨fun _ => b_X11_plan_75 hg ⟨fun _ => ⟨by omega, ?_⟩, fun z => absurd rfl z⟩, fun z => absurd rfl z⟩
        rw [hx20]
        exact q0 q hq ξ hFx
      -- the item is good: the semicolon
      have good : ∀ (ξ : Mem) (t : Int × Int × (Int → Int) × Int), itemP L x items nd cn rd p = .inr t → FrD μ ξ → ξ 399 19 = t.2.2.2 → ξ 399 4 = t.1 → ξ 399 5 = t.2.1 → ξ 401 = t.2.2.1 → B_X11_plan_66 G Q n ξ items 1 := by
        intro ξ t ht hFx x19 x4 x5 x01
        rw [ht] at hrun
        simp only at hrun
        have hpos := itemP_pos ⟨hp0, by omega⟩ ht
        have fx := hFx.x
        refine b_X11_plan_66 hg ⟨fun z => absurd z (by decide), fun _ => S_takes hg hx (fx.2.trans eL) (fx.1.trans ex) (by omega) (fun ζ hz z20 z21 z19 => ?_)⟩
        rw [x19] at z20 z21 z19
        have hs := skP_ge (L := L) (x := x) t.2.2.2
        have hsL := hs.2.1 hpos.2
        have htk2 := tokP_in hx (q := skP L x t.2.2.2) (by omega) hsL
        have hFz := hFx.t hz
        have fz := hFz.x
        have h59 : tokP L x (skP L x t.2.2.2) = 59 ↔ skP L x t.2.2.2 < L ∧ x (skP L x t.2.2.2) = 59 := by
          by_cases c : L ≤ skP L x t.2.2.2
          · have := htk2.2.2.mpr c
            omega
          · by_cases d : digP L x (skP L x t.2.2.2)
            · have e1 := d.2
              have := deP_ge (L := L) (x := x) (skP L x t.2.2.2) 0 hsL (by decide)
              have : 1000 ≤ tokP L x (skP L x t.2.2.2) := by
                unfold tokP
                rw [if_neg c, if_pos d]
                split
                · decide
                · omega
              omega
            · have : tokP L x (skP L x t.2.2.2) = x (skP L x t.2.2.2) := by
                unfold tokP
                rw [if_neg c, if_neg d]
              omega
        refine b_X11_plan_75 hg ⟨fun z => absurd z (by decide), fun _ => ⟨fun z => ?_, fun z => ?_⟩⟩
        · rw [z21] at z
          have z' := h59.mp z
          have hnx : nxtP L x (skP L x t.2.2.2) = skP L x t.2.2.2 + 1 := by
            unfold nxtP
            rw [if_neg (by omega), if_neg (fun d => by have := d.2; omega)]
          have hsem : semiP L x t.2.2.2 = .inr (skP L x t.2.2.2 + 1) := by
            unfold semiP
            rw [if_pos z']
          rw [hsem] at hrun
          simp only at hrun
          have obt := hz.r
          rw [hnx] at z19
          refine ⟨by omega, S_takes hg hx (fz.2.trans eL) (fz.1.trans ex) (by omega) (fun η hy y20 y21 y19 => ?_)⟩
          rw [z19] at y20 y21 y19
          have hFy := hFz.t hy
          have obt2 := hy.r
          have hs2 := skP_ge (L := L) (x := x) (skP L x t.2.2.2 + 1)
          refine ih (items + 1) t.1 t.2.1 (skP L x (skP L x t.2.2.2 + 1)) t.2.2.1 η (by omega) (by omega) (by omega) (hs2.2.1 (by omega)) hs2.2.2 (itemP_PW hPW hi0 ht) (fun e => by omega) hFy y20 y21 y19 ?_ ?_ ?_ hrun
          · rw [obt2.2.2.2.1, obt.2.2.2.1, x4]
          · rw [obt2.2.2.2.2, obt.2.2.2.2, x5]
          · rw [obt2.2.2.1, obt.2.2.1, x01]
        · rw [z21] at z
          have hsem : semiP L x t.2.2.2 = .inl (skP L x t.2.2.2) := by
            unfold semiP
            rw [if_neg (fun w => z (h59.mpr w))]
          rw [hsem] at hrun
          refine ⟨by omega, ?_⟩
          rw [z20]
          exact q0 _ hrun.symm ζ hFz
      obtain ⟨a1, a2, a3, a4, -⟩ := hPW
      refine b_X11_plan_20 hg ⟨fun z => absurd (htk.2.2.mp (by rw [← h21]; exact z)) hend, fun _ => ⟨fun hn => ⟨fun hc => ?_, fun hc => ?_⟩, fun hn => ?_⟩⟩
      · -- another byte
        have hf : itemP L x items nd cn rd p = .inl p := by
          unfold itemP
          by_cases hd : digP L x p
          · have := hd.2
            rw [if_neg (by omega), if_neg (by omega)]
          · have := (hdig hd).1
            rw [if_neg (by omega), if_neg (by omega)]
        rw [hf] at hrun
        exact b_X11_plan_65 hg (bad p ν hrun.symm hF h20 hp0 (by omega))
      · -- a contact
        have hnd : ¬ digP L x p := fun hd => by have := hdig2 hd; omega
        obtain ⟨t1, t2⟩ := hdig hnd
        have hx99 : x p = 99 := by omega
        rw [t2] at h19
        refine S_readsContact hg hx (f17.trans eL) (f10.trans ex) (by omega) (by omega) (by omega) (fun z => ⟨fun _ => b_X11_plan_65 hg (bad p ν ?_ hF h20 hp0 (by omega)), fun w => absurd rfl w⟩) (fun c8 q hq ξ hFx x20 => ⟨fun _ => ?_, fun w => absurd rfl w⟩) (fun c8 r hr ξ hFx x19 x4 x5 x01 => ⟨fun w => absurd w (by decide), fun _ => ?_⟩)
        · rw [itemP_c8 hx99 (by omega)] at hrun
          exact hrun.symm
        · rw [h4, h19] at hq
          rw [itemP_c0 hx99 (by omega) hq] at hrun
          have hq01 := contactP_q (by omega) hq
          exact b_X11_plan_65 hg (bad q ξ hrun.symm (hF.tr hFx) x20 hq01.1 (by omega))
        · rw [h4, h19] at hr
          rw [h4] at x4
          rw [h5] at x5
          rw [h5, h01] at x01
          exact good ξ (nd, cn + 1, set6 rd (6 * cn) r.1, r.2) (itemP_c1 hx99 (by omega) hr) (hF.tr hFx) x19 x4 x5 x01
      · -- the number of nodes
        have hnd : ¬ digP L x p := fun hd => by have := hdig2 hd; omega
        obtain ⟨t1, t2⟩ := hdig hnd
        have hx110 : x p = 110 := by omega
        rw [t2] at h19
        refine S_readsNodes hg hx (f17.trans eL) (f10.trans ex) (by omega) (fun z => bad p ν ?_ hF h20 hp0 (by omega)) (fun z q hq ξ hFx x20 => ?_) (fun z r hr ξ hFx x19 x4 x5 x01 => ?_)
        · rw [itemP_n8 hx110 (by omega)] at hrun
          exact hrun.symm
        · rw [h19] at hq
          rw [itemP_n0 hx110 (by omega) hq] at hrun
          have hq01 := numP_q (by omega) hq
          exact bad q ξ hrun.symm (hF.tr hFx) x20 hq01.1 (by omega)
        · rw [h19] at hr
          exact good ξ (r.1, cn, rd, r.2) (itemP_n1 hx110 (by omega) hr) (hF.tr hFx) x19 x4 (x5.trans h5) (x01.trans h01)
  have hF0 : FrD μ (up (up (up (up μ 399 0 0) 399 4 2) 399 5 0) 399 19 0) := (((FrD.rf.f (by decide)).f (by decide)).f (by decide)).f (by decide)
  refine m_X11_plan hg (m_X11_begins hg ?_)
  have g4 : (up (up (up (up μ 399 0 0) 399 4 2) 399 5 0) 399 19 0) 399 4 = 2 := by rw [up_oth (by decide), up_oth (by decide), up_self]
  have g5 : (up (up (up (up μ 399 0 0) 399 4 2) 399 5 0) 399 19 0) 399 5 = 0 := by rw [up_oth (by decide), up_self]
  have g19 : (up (up (up (up μ 399 0 0) 399 4 2) 399 5 0) 399 19 0) 399 19 = 0 := up_self _ _ _ _
  have g01 : (up (up (up (up μ 399 0 0) 399 4 2) 399 5 0) 399 19 0) 401 = μ 401 := by rw [up_ne (by decide), up_ne (by decide), up_ne (by decide), up_ne (by decide)]
  generalize up (up (up (up μ 399 0 0) 399 4 2) 399 5 0) 399 19 0 = ν at *
  obtain ⟨f10, f17⟩ := hF0.x
  refine S_takes hg hx (f17.trans eL) (f10.trans ex) (by omega) (fun ξ hFx x20 x21 x19 => ?_)
  rw [g19] at x20 x21 x19
  have hs := skP_ge (L := L) (x := x) 0
  have r := hFx.r
  refine loop (L.toNat + 1) 0 2 0 (skP L x 0) (μ 401) ξ (by omega) (by decide) (by omega) (hs.2.1 hL0) hs.2.2 ⟨by decide, by decide, by decide, by decide, fun c c0 c1 => by omega⟩ (fun _ => rfl) (hF0.t hFx) x20 x21 x19 (r.2.2.2.1.trans g4) (r.2.2.2.2.trans g5) (r.2.2.1.trans g01) rfl
end MPlan2
