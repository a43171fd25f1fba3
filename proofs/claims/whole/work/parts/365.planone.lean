-- the class: one bundle planned
theorem EE_out {cn w out out' : Int} {of s : Int → Int} {tk : Int → Int → Prop} (h : out < 0) (h' : out' < 0) : EE cn of s tk w out = EE cn of s tk w out' := by
  funext c t
  unfold EE
  by_cases q : msB (s 1) c ∨ ¬ (0 ≤ c ∧ c < cn)
  · rw [if_pos (Or.inr q), if_pos (Or.inr q)]
  · have q1 : ¬ (c = out ∨ msB (s 1) c ∨ ¬ (0 ≤ c ∧ c < cn)) := fun z => by
      rcases z with z | z
      · exact q (Or.inr (fun y => by omega))
      · exact q z
    have q2 : ¬ (c = out' ∨ msB (s 1) c ∨ ¬ (0 ≤ c ∧ c < cn)) := fun z => by
      rcases z with z | z
      · exact q (Or.inr (fun y => by omega))
      · exact q z
    rw [if_neg q1, if_neg q2]
/-- nothing but a situation and the router has changed -/
def FrL (a : Int) (μ ν : Mem) : Prop := ∀ r, ¬ (a ≤ r ∧ r < a + 29) → ¬ (10 ≤ r ∧ r ≤ 16) → ν r = μ r
theorem FrL.rf {a : Int} {μ : Mem} : FrL a μ μ := fun _ _ _ => rfl
theorem FrL.tr {a : Int} {μ ν ξ : Mem} (h : FrL a μ ν) (h2 : FrL a ν ξ) : FrL a μ ξ := fun r r1 r2 => (h2 r r1 r2).trans (h r r1 r2)
theorem FrL.s {a : Int} {μ ν ξ : Mem} (h : FrL a μ ν) (h2 : FrS a ν ξ) : FrL a μ ξ := fun r r1 r2 => (h2 r r1).trans (h r r1 r2)
theorem FrL.b {a b : Int} {μ ν ξ : Mem} (hb : 0 ≤ b ∧ b < 8) (h : FrL a μ ν) (h2 : FrB (a + 4 + 1 + 3 * b) ν ξ) : FrL a μ ξ := fun r r1 r2 => (h2 r (by omega)).trans (h r r1 r2)
theorem FrL.r {a : Int} {μ ν ξ : Mem} (h : FrL a μ ν) (h2 : FrR ν ξ) : FrL a μ ξ := fun r r1 r2 => (h2 r r2).trans (h r r1 r2)
theorem FrL.t {a : Int} {μ ν ξ : Mem} (h : FrL a μ ν) (h2 : ButT 11 ν ξ) : FrL a μ ξ := fun r r1 r2 => (h2.1 r (by omega) (by omega)).trans (h r r1 r2)
theorem NRel_L {n : Nat} {μ ν : Mem} {a nd cn : Int} {of : Int → Int} (o : St a 7 5) (h : FrL a μ ν) (hN : NRel n μ 7 nd cn of) : NRel n ν 7 nd cn of := by
  have := St_S o
  exact NRel_keep (Nat.le_refl _) (h 7 (by omega) (by omega)) (h (7 + 2) (by omega) (by omega)) (fun p hp => h p (by omega) (by omega)) hN
theorem SRel_R {μ ν : Mem} {a x : Int} {of s : Int → Int} (o : St a 7 5) (hm8 : s 2 ≤ 8) (h : FrR μ ν) (hS : SRel of s μ a x) : SRel of s ν a x := by
  have := St_S o
  exact SRel_keep hm8 (fun r r0 r1 => h r (by omega)) hS
theorem SRel_sub {μ : Mem} {a x x' : Int} {of s : Int → Int} (hS : SRel of s μ a x) (h : ∀ b, 0 ≤ b → b < s 2 → stateP of s b = 0 → msB x b → msB x' b) : SRel of s μ a x' := by
  obtain ⟨h1, h2, h3, h4⟩ := hS
  exact ⟨h1, h2, h3, fun b b0 b1 => ⟨(h4 b b0 b1).1, fun hn hst => (h4 b b0 b1).2 (fun z => hn (h b b0 b1 hst z)) hst⟩⟩
theorem leads_0 {of s : Int → Int} {b : Int} (h9 : it s b 9 = 0) : leadsP of s b = nodeP of s b := by
  unfold leadsP nodeP
  rw [if_pos (by omega)]
/-- a bundle that has got the hops of a way: its rows -/
theorem BRel_get {μ ν : Mem} {nd cn b v t0 : Int} {of s : Int → Int} {tk : Int → Int → Prop} {L : List Int} (hB : BR nd cn of s b) (h9 : it s b 9 = 0) (hl : L.length ≤ 5) (hb : BRel of s μ b v) (h1 : ∀ k, ν v k = μ v k) (h2 : ν (v + 1) 2 = onP s b + (L.length : Int)) (h3 : ∀ j, 0 ≤ j → j < 4 * onP s b → ν (v + 1 + 1) j = μ (v + 1 + 1) j) (h4 : ∀ j, 0 ≤ j → j < 4 * (L.length : Int) → ν (v + 1 + 1) (4 * onP s b + j) = μ (15 + 1) j) (hR : RwT of s tk (it s b 0) μ (15 + 1) L t0) : BRel of (getP s b L (wayB of s tk (it s b 0) L t0)) ν b v := by
  obtain ⟨a2, a3, a4, a5, a6, a7, a9, ac⟩ := hb
  have f : ∀ w, 0 ≤ w → w < 9 → it (getP s b L (wayB of s tk (it s b 0) L t0)) b w = it s b w := fun w w0 w1 => getP_it hl (by omega) (Or.inr w1)
  have e9 : it (getP s b L (wayB of s tk (it s b 0) L t0)) b 9 = (L.length : Int) := getP_9
  have eo : onP (getP s b L (wayB of s tk (it s b 0) L t0)) b = onP s b := by unfold onP; rw [f 7 (by decide) (by decide)]
  have eN : rwN (getP s b L (wayB of s tk (it s b 0) L t0)) b = onP s b + (L.length : Int) := by unfold rwN; rw [eo, e9]
  have hon := onP_in s b
  refine ⟨by rw [h1, a2, f 4 (by decide) (by decide)], by rw [h1, a3, f 1 (by decide) (by decide)], by rw [h1, a4, f 0 (by decide) (by decide)], by rw [h1, a5, f 2 (by decide) (by decide)], by rw [h1, a6, f 3 (by decide) (by decide)], by rw [h1, a7, f 5 (by decide) (by decide)], by rw [h2, eN], fun i i0 i1 => ?_⟩
  rw [eN] at i1
  unfold arrT
  rw [f 0 (by decide) (by decide)]
  by_cases ci : i < onP s b
  · -- the hop on its way
    have h7 : it s b 7 ≠ -9 := by rcases hon with ⟨h7, e⟩ | ⟨h7, e⟩ <;> omega
    have eo1 : onP s b = 1 := by rcases hon with ⟨h7', e⟩ | ⟨h7', e⟩ <;> omega
    have ei : i = 0 := by omega
    subst ei
    have h7' : it (getP s b L (wayB of s tk (it s b 0) L t0)) b 7 ≠ -9 := by rw [f 7 (by decide) (by decide)]; exact h7
    rw [(row_on h7').1, (row_on h7').2.1, f 7 (by decide) (by decide), f 8 (by decide) (by decide)]
    have ha := ac 0 (by decide) (by unfold rwN; omega)
    rw [(row_on h7).1, (row_on h7).2.1] at ha
    unfold arrT at ha
    rw [h3 _ (by decide) (by omega), h3 _ (by decide) (by omega), h3 _ (by decide) (by omega), h3 _ (by decide) (by omega)]
    exact ha
  · obtain ⟨k, hk⟩ := Int.eq_ofNat_of_zero_le (show 0 ≤ i - onP s b by omega)
    have ei : i = onP s b + (k : Int) := by omega
    have hk5 : k < L.length := by omega
    have hrow := row_hop (s := getP s b L (wayB of s tk (it s b 0) L t0)) (b := b) (k : Int) (by omega)
    have hget := getP_hop (s := s) (b := b) (l := L) (bs := wayB of s tk (it s b 0) L t0) hl hk5
    rw [eo] at hrow
    rw [ei, hrow.1, hrow.2, hget.1, hget.2]
    have hr := hR k hk5
    have hc : ∀ x : Int, 0 ≤ x → x < 4 → ν (v + 1 + 1) (4 * (onP s b + (k : Int)) + x) = μ (15 + 1) (4 * (k : Int) + x) := fun x x0 x1 => by
      have := h4 (4 * (k : Int) + x) (by omega) (by omega)
      rw [show 4 * onP s b + (4 * (k : Int) + x) = 4 * (onP s b + (k : Int)) + x by omega] at this
      exact this
    rw [hc 0 (by decide) (by decide), hc 1 (by decide) (by decide), hc 2 (by decide) (by decide), hc 3 (by decide) (by decide)]
    exact hr
/-- the numbers when a bundle has got its hops, and nobody is pushed out yet -/
noncomputable def midP (cn : Int) (of s : Int → Int) (b : Int) : Int → Int := getP (set1 (giveP s b) (3 + 20 * b + 6) 1) b (bestL cn of (giveP s b) b) (bestB cn of (giveP s b) b)
section PlanOne
variable {G : GT} {n : Nat} {μ : Mem}
theorem C_planOne (hg : gx G = FX) {Q : Int → Nat → Mem → Prop} {nd cn a b x : Int} {of s : Int → Int} (o : St a 7 5) (hp : PW nd cn of) (hN : NRel n μ 7 nd cn of) (hs : SV nd cn of s) (h : SRel of s μ a x) (hx : st8 x) (hb : 0 ≤ b ∧ b < s 2) (hbx : msB x b) (hop : stateP of s b ≤ 1) (h13 : 0 ≤ μ 13 2 ∧ μ 13 2 ≤ 6)
    (q0 : (planP cn of s b).2 = 0 → ∀ ν, FrL a μ ν → (0 ≤ ν 13 2 ∧ ν 13 2 ≤ 6) → SRel of (planP cn of s b).1 ν a (iAnd x (iXor (iShl 1 b) (-1))) → Q 0 n ν)
    (q1 : planP cn of s b = (giveAll (midP cn of s b) (poSet of (midP cn of s b) b (s 2).toNat) (s 2).toNat, poSet of (midP cn of s b) b (s 2).toNat) → bestA cn of (giveP s b) b < 9999 → ∀ ν, FrL a μ ν → (0 ≤ ν 13 2 ∧ ν 13 2 ≤ 6) → SRel of (midP cn of s b) ν a (iAnd x (iXor (iShl 1 b) (-1))) → Q 1 n ν) : CI G Y_X5_planOne [.inr 17, .inr a, .inl b] n μ Q := by
  have hm8 := hs.1.2.2.2.1
  have hSa := St_S o
  have oB := St_SB o hb.1 (b := b) (by omega)
  have hStB := St_B oB
  have hB := hs.1.2.2.2.2 b hb.1 hb.2
  have hv := hs.2.1 b hb.1 hb.2
  -- its hops to come given up
  have hsg := SV_giveP hs hb.1 (b := b)
  have g0 : giveP s b 0 = s 0 := set1_ne (by omega)
  have g1 : giveP s b 1 = s 1 := set1_ne (by omega)
  have g2 : giveP s b 2 = s 2 := set1_ne (by omega)
  have gi : ∀ o' w, 0 ≤ w → w < 20 → (o' ≠ b ∨ w ≠ 9) → it (giveP s b) o' w = it s o' w := fun o' w w0 w1 hh => it_set_ne (by omega) ⟨w0, w1⟩ hh
  have g9 : it (giveP s b) b 9 = 0 := it_set_at (by omega)
  have hbg : 0 ≤ b ∧ b < giveP s b 2 := by rw [g2]; exact hb
  have hBg := hsg.1.2.2.2.2 b hbg.1 hbg.2
  have hvg := hsg.2.1 b hbg.1 hbg.2
  have hopg : stateP of (giveP s b) b ≤ 1 := by
    rw [stateP_open] at hop ⊢
    rw [gi b 7 (by decide) (by decide) (Or.inr (by decide)), gi b 4 (by decide) (by decide) (Or.inr (by decide)), gi b 1 (by decide) (by decide) (Or.inr (by decide)), gi b 5 (by decide) (by decide) (Or.inr (by decide)), gi b 2 (by decide) (by decide) (Or.inr (by decide)), g0]
    exact hop
  have n1 : ¬ (stateP of (giveP s b) b = 2 ∨ stateP of (giveP s b) b = 4 ∨ stateP of (giveP s b) b = 3) := by omega
  have hxb : ∀ j, 0 ≤ j → j < 8 → (msB (iAnd x (iXor (iShl 1 b) (-1))) j ↔ msB x j ∧ j ≠ b) := fun j j0 j1 => ms_and hx ⟨hb.1, by omega⟩ ⟨j0, j1⟩
  refine m_X5_planOne hg o (S_bundleAt hg o ⟨hb.1, by omega⟩ ⟨oB, ?_⟩)
  rw [h.2.1]
  refine S_giveUp hg oB hB (h.2.2.2 b hb.1 hb.2).1 hv.2 (fun ν hF hνv hbr => ?_)
  have hFL : FrL a μ ν := FrL.rf.b ⟨hb.1, by omega⟩ hF
  have hNν := NRel_L o hFL hN
  -- the others as they were
  have hS : ∀ x', (∀ o', 0 ≤ o' → o' < s 2 → o' ≠ b → msB x o' → msB x' o') → (¬ msB x' b → stateP of (giveP s b) b = 0 → ν (a + 4 + 1 + 3 * b) 8 = it (giveP s b) b 6) → SRel of (giveP s b) ν a x' := fun x' hx' hy => SRel_one hs.1 h hb hF (fun k hk => set1_ne (by omega)) (fun o' o0 o1 hne w w0 w1 => gi o' w w0 w1 (Or.inl hne)) hbr hx' hy
  refine S_lastNode hg oB hp hNν hBg hbr ?_
  rw [leads_0 g9]
  have e3 : ν (a + 4 + 1 + 3 * b) 3 = it (giveP s b) b 1 := hbr.2.1
  rw [e3]
  refine ⟨fun hne => ?_, fun heq => ?_⟩
  · -- it is to be routed
    have hSx : SRel of (giveP s b) ν a x := hS x (fun _ _ _ _ z => z) (fun hn _ => absurd hbx hn)
    have hnd := nodeP_in hp hBg
    have hwh := whenP_in hp (s := giveP s b) (by rw [g0]; exact ⟨hs.1.1, hs.1.2.1⟩) hBg
    have hwh0 : 0 ≤ whenP of (giveP s b) b := hwh.1
    -- what the way is called here
    have eA : bestA cn of (giveP s b) b = dpP cn (Fc of) (Tc of) (EE cn of (giveP s b) (tkS of (giveP s b) (it (giveP s b) b 3)) (it (giveP s b) b 0) (-9)) (nodeP of (giveP s b) b) (whenP of (giveP s b) b) 5 (it (giveP s b) b 1) := rfl
    have eO : EE cn of (giveP s b) (tkS of (giveP s b) (it (giveP s b) b 3)) (it (giveP s b) b 0) (-1) = EE cn of (giveP s b) (tkS of (giveP s b) (it (giveP s b) b 3)) (it (giveP s b) b 0) (-9) := EE_out (by decide) (by decide)
    -- the reason is written
    have why : ∀ (η : Mem) (r : Int), (r = 0 ∨ r = 1) → planP cn of s b = (set1 (giveP s b) (3 + 20 * b + 6) r, 0) → FrL a μ η → (0 ≤ η 13 2 ∧ η 13 2 ≤ 6) → SRel of (giveP s b) η a x → Q 0 n (up η (a + 4 + 1 + 3 * b) 8 r) := by
      intro η r hr hpl hFη hη13 hSη
      have yi : ∀ o' w, 0 ≤ w → w < 20 → w ≠ 6 → it (set1 (giveP s b) (3 + 20 * b + 6) r) o' w = it (giveP s b) o' w := fun o' w w0 w1 w6 => it_set_ne (by omega) ⟨w0, w1⟩ (Or.inr w6)
      have hF1 : FrB (a + 4 + 1 + 3 * b) η (up η (a + 4 + 1 + 3 * b) 8 r) := FrB.rf.f
      refine q0 (by rw [hpl]) _ (hFη.b ⟨hb.1, by omega⟩ hF1) (by rw [up_ne (by omega)]; exact hη13) ?_
      rw [hpl]
      have hbη := (hSη.2.2.2 b hbg.1 hbg.2).1
      refine SRel_one hsg.1 hSη hbg hF1 (fun k hk => set1_ne (by omega)) (fun o' o0 o1 hne w w0 w1 => it_set_ne (by omega) ⟨w0, w1⟩ (Or.inl hne)) (BRel_eq (fun w w0 w1 w6 => yi b w w0 w1 w6) hBg ?_) (fun o' o0 o1 hne z => (hxb o' o0 (by rw [g2] at o1; omega)).mpr ⟨z, hne⟩) (fun _ _ => by rw [up_self]; exact (it_set_at (by omega)).symm)
      obtain ⟨a2, a3, a4, a5, a6, a7, a9, ac⟩ := hbη
      exact ⟨by rw [up_oth (by decide)]; exact a2, by rw [up_oth (by decide)]; exact a3, by rw [up_oth (by decide)]; exact a4, by rw [up_oth (by decide)]; exact a5, by rw [up_oth (by decide)]; exact a6, by rw [up_oth (by decide)]; exact a7, by rw [up_ne (by omega)]; exact a9, fun i i0 i1 => by rw [up_ne (by omega)]; exact ac i i0 i1⟩
    have route : ∀ t0, t0 = whenP of (giveP s b) b → B_X5_planOne_52 G Q n ν a (a + 4 + 1 + 3 * b) (nodeP of (giveP s b) b) t0 := by
      intro t0 et
      rw [et]
      have e6 : ν (a + 4 + 1 + 3 * b) 6 = it (giveP s b) b 3 := hbr.2.2.2.2.1
      refine b_X5_planOne_52 hg o oB ?_
      rw [e6]
      refine C_lookAt hg o hp hNν hsg hSx (fun ξ hξ hR => ?_)
      have hFξ : FrL a μ ξ := hFL.t hξ
      have hNξ := NRel_L o hFξ hN
      have hSξ := SRel_T o (by rw [g2]; exact hm8) hξ hSx
      have hbξ := (hSξ.2.2.2 b hbg.1 hbg.2).1
      have x13 : ξ 13 = μ 13 := (hξ.1 13 (by decide) (by decide)).trans (hF 13 (by omega))
      rw [hbξ.2.1, hbξ.2.2.1]
      refine C_seek hg hp ⟨hBg.1, hBg.2.1⟩ hnd hwh hne hNξ hR (by rw [x13]; exact h13) (fun hA η hη _ _ hη13 => ?_) (fun L B hBW hBA η hη _ _ hη13 h15 hRw => ?_)
      · -- no way
        rw [eO, ← eA] at hA
        have hpl : planP cn of s b = (set1 (giveP s b) (3 + 20 * b + 6) 0, 0) := by unfold planP; rw [if_neg n1, if_neg hne, if_pos hA]
        exact ⟨fun _ => b_X5_planOne_104 hg oB ⟨fun z => absurd rfl z, fun _ => why η 0 (Or.inl rfl) hpl (hFξ.r hη) hη13 (SRel_R o (by rw [g2]; exact hm8) hη hSξ)⟩, fun z => absurd rfl z⟩
      · rw [eO] at hBW hBA
        rw [← eA] at hBA
        have hle := WK_le (EE_up hp ⟨hBg.1, hBg.2.1⟩) hBW.1
        have hlt := WK_lt (by omega) hBW.1
        have hB9 : ¬ B = -9 := by omega
        have hA9 : ¬ 9999 ≤ bestA cn of (giveP s b) b := by omega
        have hSη := SRel_R o (by rw [g2]; exact hm8) hη hSξ
        have hFη : FrL a μ η := hFξ.r hη
        have hbη := (hSη.2.2.2 b hbg.1 hbg.2).1
        refine ⟨fun z => absurd z hB9, fun _ => ?_⟩
        rw [hbη.2.2.2.1]
        refine ⟨fun hd => ?_, fun hd => b_X5_planOne_104 hg oB ⟨fun _ => why η 1 (Or.inr rfl) ?_ hFη hη13 hSη, fun z => absurd z hB9⟩⟩
        · -- it gets the hops
          have hpl : planP cn of s b = (giveAll (midP cn of s b) (poSet of (midP cn of s b) b (s 2).toNat) (s 2).toNat, poSet of (midP cn of s b) b (s 2).toNat) := by
            unfold planP
            rw [if_neg n1, if_neg hne, if_neg hA9, if_neg (by omega)]
            rfl
          have hl5 := hBW.2.1
          have y0 : set1 (giveP s b) (3 + 20 * b + 6) 1 0 = giveP s b 0 := set1_ne (by omega)
          have yi : ∀ o' w, 0 ≤ w → w < 20 → w ≠ 6 → it (set1 (giveP s b) (3 + 20 * b + 6) 1) o' w = it (giveP s b) o' w := fun o' w w0 w1 w6 => it_set_ne (by omega) ⟨w0, w1⟩ (Or.inr w6)
          have eL : bestL cn of (giveP s b) b = L := wayL_is hBW
          have eW : bestB cn of (giveP s b) b = wayB of (set1 (giveP s b) (3 + 20 * b + 6) 1) (tkS of (giveP s b) (it (giveP s b) b 3)) (it (set1 (giveP s b) (3 + 20 * b + 6) 1) b 0) L (whenP of (giveP s b) b) := by
            unfold bestB
            rw [eL, yi b 0 (by decide) (by decide) (by decide), wayB_cong y0]
          have eM : midP cn of s b = getP (set1 (giveP s b) (3 + 20 * b + 6) 1) b L (wayB of (set1 (giveP s b) (3 + 20 * b + 6) 1) (tkS of (giveP s b) (it (giveP s b) b 3)) (it (set1 (giveP s b) (3 + 20 * b + 6) 1) b 0) L (whenP of (giveP s b) b)) := by
            unfold midP
            rw [eL, eW]
          have hBy : BR nd cn of (set1 (giveP s b) (3 + 20 * b + 6) 1) b := (SR_why hb.1 (Or.inr rfl) hsg.1).2.2.2.2 b hb.1 (by rw [set1_ne (by omega), g2]; exact hb.2)
          have hby : BRel of (set1 (giveP s b) (3 + 20 * b + 6) 1) η b (a + 4 + 1 + 3 * b) := BRel_eq (fun w w0 w1 w6 => yi b w w0 w1 w6) hBg hbη
          have y9 : it (set1 (giveP s b) (3 + 20 * b + 6) 1) b 9 = 0 := by rw [yi b 9 (by decide) (by decide) (by decide)]; exact g9
          have hRy : RwT of (set1 (giveP s b) (3 + 20 * b + 6) 1) (tkS of (giveP s b) (it (giveP s b) b 3)) (it (set1 (giveP s b) (3 + 20 * b + 6) 1) b 0) η (15 + 1) L (whenP of (giveP s b) b) := by
            unfold RwT
            rw [yi b 0 (by decide) (by decide) (by decide), wayB_cong y0]
            exact hRw
          have hrows : η (a + 4 + 1 + 3 * b + 1) 2 = onP (set1 (giveP s b) (3 + 20 * b + 6) 1) b := by
            have := hby.2.2.2.2.2.2.1
            unfold rwN at this
            rw [y9] at this
            rw [this]; omega
          have hon := onP_in (set1 (giveP s b) (3 + 20 * b + 6) 1) b
          refine T_append hg (Tb_B oB) Tb_15 (by omega) (by rw [hrows]; omega) (by rw [h15]; omega) (by rw [hrows, h15]; omega) (fun θ hθ t2 t3 t4 => ?_)
          rw [hrows] at t2 t3 t4
          rw [h15] at t2 t4
          have hFθ : FrB (a + 4 + 1 + 3 * b) η θ := FrB.rf.t hθ
          have tv : ∀ k, θ (a + 4 + 1 + 3 * b) k = η (a + 4 + 1 + 3 * b) k := fun k => congrFun (hθ.1 (a + 4 + 1 + 3 * b) (by omega) (by omega)) k
          have hbm : BRel of (midP cn of s b) θ b (a + 4 + 1 + 3 * b) := by
            rw [eM]
            exact BRel_get hBy y9 hl5 hby tv t2 t3 t4 hRy
          refine q1 hpl (by omega) θ (hFη.b ⟨hb.1, by omega⟩ hFθ) (by rw [hFθ 13 (by omega)]; exact hη13) ?_
          refine SRel_one hsg.1 hSη hbg hFθ (fun k hk => ?_) (fun o' o0 o1 hne' w w0 w1 => ?_) hbm (fun o' o0 o1 hne' z => (hxb o' o0 (by rw [g2] at o1; omega)).mpr ⟨z, hne'⟩) (fun _ hst => ?_)
          · rw [eM, getP_lo hb.1 hk]
            exact set1_ne (by omega)
          · rw [eM, getP_it hl5 ⟨w0, w1⟩ (Or.inl hne')]
            exact it_set_ne (by omega) ⟨w0, w1⟩ (Or.inl hne')
          · -- it is booked
            have hL0 : 0 < L.length := by
              cases L with
              | nil => exact absurd hBW.1.1 hne
              | cons f l => exact Nat.succ_pos _
            have hlast := ((wayB_free hp ⟨hBg.1, hBg.2.1⟩ L hBW.1).2.2.2 hL0).2
            have := (stateP_wait.mp hst).2
            refine absurd ?_ this
            rw [eM]
            unfold leadsP
            rw [getP_9, if_neg (by omega), getP_it (w := 1) hl5 (by decide) (Or.inr (by decide)), yi b 1 (by decide) (by decide) (by decide)]
            have hget := (getP_hop (s := set1 (giveP s b) (3 + 20 * b + 6) 1) (b := b) (l := L) (bs := wayB of (set1 (giveP s b) (3 + 20 * b + 6) 1) (tkS of (giveP s b) (it (giveP s b) b 3)) (it (set1 (giveP s b) (3 + 20 * b + 6) 1) b 0) L (whenP of (giveP s b) b)) hl5 (j := L.length - 1) (by omega)).1
            unfold hopC at hget
            rw [show (10 + 2 * (L.length : Int) - 2) = 10 + 2 * ((L.length - 1 : Nat) : Int) by omega, hget]
            exact hlast
        · unfold planP
          rw [if_neg n1, if_neg hne, if_neg hA9, if_pos (by omega)]
    have hrows : ν (a + 4 + 1 + 3 * b + 1) 2 = onP (giveP s b) b := by
      have := hbr.2.2.2.2.2.2.1
      unfold rwN at this
      rw [g9] at this
      rw [this]; omega
    rw [hrows]
    refine ⟨fun z => S_lastThere hg oB hBg hbr (route _ ?_), fun z => ?_⟩
    · rcases onP_in (giveP s b) b with ⟨h7, e⟩ | ⟨h7, e⟩
      · omega
      · unfold endP whenP
        rw [if_pos (by omega), if_neg h7, if_neg h7]
    · rcases onP_in (giveP s b) b with ⟨h7, e⟩ | ⟨h7, e⟩
      · refine route _ ?_
        unfold whenP
        rw [if_pos h7]
        exact hSx.2.1
      · omega
  · have hpl : planP cn of s b = (giveP s b, 0) := by unfold planP; rw [if_neg n1, if_pos heq]
    refine q0 (by rw [hpl]) ν hFL ?_ ?_
    · rw [hF 13 (by omega)]
      exact h13
    · rw [hpl]
      refine hS _ (fun o' o0 o1 hne z => (hxb o' o0 (by omega)).mpr ⟨z, hne⟩) (fun _ hst => ?_)
      have := (stateP_wait.mp hst).2
      rw [leads_0 g9] at this
      exact absurd heq this
end PlanOne
