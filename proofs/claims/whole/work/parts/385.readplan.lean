-- the class: a plan is read
/-- nothing but the reader and its draft has changed of what there was -/
def FrD4 (n : Nat) (μ ν : Mem) : Prop := ∀ r : Int, r ≠ 3 → r ≠ 4 → r ≠ 6 → r < n → ν r = μ r
theorem FrD4.rf {n : Nat} {μ : Mem} : FrD4 n μ μ := fun _ _ _ _ _ => rfl
theorem FrD4.k {n : Nat} {μ ν ξ : Mem} (h : FrD4 n μ ν) (h2 : FrK ν ξ) : FrD4 n μ ξ := fun r r1 r2 r3 r4 => (h2 r r1).trans (h r r1 r2 r3 r4)
theorem FrD4.tr {n m : Nat} {μ ν ξ : Mem} (hm : n ≤ m) (h : FrD4 n μ ν) (h2 : FrD4 m ν ξ) : FrD4 n μ ξ := fun r r1 r2 r3 r4 => (h2 r r1 r2 r3 (by omega)).trans (h r r1 r2 r3 r4)
theorem TxR.d {n : Nat} {μ ν : Mem} {L : Int} {x : Int → Int} (hn : 415 ≤ n) (h : FrD4 n μ ν) (q : TxR μ L x) : TxR ν L x := by
  unfold TxR
  rw [h 1 (by decide) (by decide) (by decide) (by omega), h 2 (by decide) (by decide) (by decide) (by omega)]
  exact q
theorem NRel_K {n : Nat} {μ ν : Mem} {nd cn : Int} {of : Int → Int} (h : FrK μ ν) (hN : NRel n μ 4 nd cn of) : NRel n ν 4 nd cn of :=
  NRel_keep (Nat.le_refl _) (h 4 (by decide)) (h (4 + 2) (by decide)) (fun p hp => h p (by omega)) hN
section ReadPlan
variable {G : GT} {n : Nat} {μ : Mem}
theorem C_readNodes (hg : gx G = FX) {Q : Nat → Mem → Prop} {L : Int} {x : Int → Int} (hx : TxP L x) (hT : TxR μ L x) (hp : 0 ≤ μ 3 2 ∧ μ 3 2 ≤ L) (hf : μ 3 3 = -1)
    (q0 : ∀ f, 0 ≤ f → (numP L x 2 6 (-1) (μ 3 2) = .inl f ∨ ∃ r, numP L x 2 6 (-1) (μ 3 2) = .inr r ∧ semiP L x r.2 = .inl f) → ∀ ν, FrK μ ν → ν 3 3 = f → (0 ≤ ν 3 2 ∧ ν 3 2 ≤ L) → Q n ν)
    (q1 : ∀ r p2, numP L x 2 6 (-1) (μ 3 2) = .inr r → semiP L x r.2 = .inr p2 → ∀ ν, FrK μ ν → ν 3 3 = -1 → ν 3 2 = p2 → Q n (up ν 4 3 r.1)) : CV G Y_X4_readNodes [.inr 3] n μ Q := by
  refine m_X4_readNodes hg (C_readNumber hg hx hT hp (by decide) (by decide) (fun ν v hF hv hpos hflt hok => ?_))
  have hTx := hT.k hF
  refine C_readSemicolon hg hx hTx hpos (fun ξ hFx hposx hfltx hokx => ?_)
  rw [if_pos hf] at hflt
  cases hn : numP L x 2 6 (-1) (μ 3 2) with
  | inl f =>
    have hfq := numP_q hp hn
    rw [hn] at hflt
    have e : ν 3 3 = f := hflt
    rw [if_neg (by omega)] at hfltx
    exact ⟨fun _ => q0 f hfq.1 (Or.inl hn) ξ (hF.tr hFx) (by rw [hfltx, e]) hposx, fun z => by omega⟩
  | inr r =>
    obtain ⟨e1, e2⟩ := hok r hn
    rw [hn] at hflt
    have hflt' : ν 3 3 = -1 := hflt
    rw [if_pos hflt', e2] at hfltx
    rw [e2] at hokx
    cases hs : semiP L x r.2 with
    | inl f =>
      rw [hs] at hfltx
      have e : ξ 3 3 = f := hfltx
      have hf0 : 0 ≤ f := by
        have hpn := numP_pos hp hn (by decide)
        unfold semiP at hs
        split at hs
        · cases hs
        · cases hs
          have := (skP_ge (L := L) (x := x) r.2).1
          omega
      exact ⟨fun _ => q0 f hf0 (Or.inr ⟨r, hn, hs⟩) ξ (hF.tr hFx) e hposx, fun z => by omega⟩
    | inr p2 =>
      rw [hs] at hfltx
      refine ⟨fun z => absurd hfltx z, fun _ => ?_⟩
      rw [e1]
      exact q1 r p2 hn hs ξ (hF.tr hFx) hfltx (hokx p2 hs)
/-- a contact more -/
theorem NRel_add {nd cn : Int} {rd : Int → Int} {l : Int × Int × Int × Int × Int × Int} (hn : 415 ≤ n) (h0 : 0 ≤ cn) (hN : NRel n μ 4 nd cn rd) {ν : Mem} (hco : Co (n + 1) (n : Int)) (h4 : ν 4 3 = nd ∧ ν 4 2 = cn + 1) (h6 : ∀ k, k ≠ cn → ν (4 + 2) k = μ (4 + 2) k) (h6c : ν (4 + 2) cn = (n : Int)) (hc : ∀ p : Int, p = 5 ∨ p = 8 ∨ (415 ≤ p ∧ p < n) → ν p = μ p)
    (e : ν n 0 = l.1 ∧ ν n 1 = l.2.1 ∧ ν n 2 = l.2.2.1 ∧ ν n 3 = l.2.2.2.1 ∧ ν n 4 = l.2.2.2.2.1 ∧ ν n 5 = l.2.2.2.2.2) : NRel (n + 1) ν 4 nd (cn + 1) (set6 rd (6 * cn) l) := by
  obtain ⟨a, b, c⟩ := hN
  refine ⟨h4.1, h4.2, fun i i0 i1 => ?_⟩
  by_cases ei : i = cn
  · rw [ei, h6c]
    refine ⟨hco, fun k k0 k1 => ?_⟩
    obtain ⟨e0, e1, e2, e3, e4, e5⟩ := e
    unfold cf
    rw [set6_at]
    have hk : k = 0 ∨ k = 1 ∨ k = 2 ∨ k = 3 ∨ k = 4 ∨ k = 5 := by omega
    rcases hk with rfl | rfl | rfl | rfl | rfl | rfl
    · rw [if_pos (by omega)]; exact e0
    · rw [if_neg (by omega), if_pos rfl]; exact e1
    · rw [if_neg (by omega), if_neg (by omega), if_pos rfl]; exact e2
    · rw [if_neg (by omega), if_neg (by omega), if_neg (by omega), if_pos rfl]; exact e3
    · rw [if_neg (by omega), if_neg (by omega), if_neg (by omega), if_neg (by omega), if_pos rfl]; exact e4
    · rw [if_neg (by omega), if_neg (by omega), if_neg (by omega), if_neg (by omega), if_neg (by omega), if_pos rfl]; exact e5
  · have h := c i i0 (by omega)
    have hp := Co_place h.1
    have hl := h.1.2.1
    rw [h6 i ei]
    refine ⟨⟨h.1.1, by omega, h.1.2.2⟩, fun k k0 k1 => ?_⟩
    rw [hc _ (by omega), h.2 k k0 k1]
    unfold cf
    rw [set6_at, if_neg (by omega), if_neg (by omega), if_neg (by omega), if_neg (by omega), if_neg (by omega), if_neg (by omega)]
theorem C_readContact (hg : gx G = FX) {Q : Nat → Mem → Prop} {L nd cn : Int} {x rd : Int → Int} (hn : 415 ≤ n) (hx : TxP L x) (hT : TxR μ L x) (hp : 0 ≤ μ 3 2 ∧ μ 3 2 ≤ L) (hf : μ 3 3 = -1) (hN : NRel n μ 4 nd cn rd) (hnd : 2 ≤ nd ∧ nd ≤ 6) (hcn : 0 ≤ cn ∧ cn < 8)
    (q0 : ∀ f, 0 ≤ f → (contactP L x nd (μ 3 2) = .inl f ∨ ∃ r, contactP L x nd (μ 3 2) = .inr r ∧ semiP L x r.2 = .inl f) → ∀ ν, FrK μ ν → ν 3 3 = f → (0 ≤ ν 3 2 ∧ ν 3 2 ≤ L) → Q n ν)
    (q1 : ∀ r p2, contactP L x nd (μ 3 2) = .inr r → semiP L x r.2 = .inr p2 → ∀ ν, FrD4 n μ ν → ν 3 3 = -1 → ν 3 2 = p2 → NRel (n + 1) ν 4 nd (cn + 1) (set6 rd (6 * cn) r.1) → Q (n + 1) ν) : CV G Y_X4_readContact [.inr 3] n μ Q := by
  have e43 : μ 4 3 = nd := hN.1
  refine m_X4_readContact hg ⟨by rw [e43]; unfold inR; omega, ⟨by decide, by decide⟩, ?_⟩
  rw [e43]
  refine C_readNumber hg hx hT hp (by decide) (by omega) (fun ν1 v1 F1 b1 p1 f1 k1 => ?_)
  have T1 := hT.k F1
  have s1 := num_step (ok := True) (C := fun f => contactP L x nd (μ 3 2) = .inl f) hp (Or.inl ⟨hf, trivial⟩) f1 k1 (fun _ q h => cP1 h)
  rw [F1 4 (by decide), e43]
  refine ⟨by unfold inR; omega, ⟨by decide, by decide⟩, C_readNumber hg hx T1 p1 (by decide) (by omega) (fun ν2 v2 F2 b2 p2 f2 k2 => ?_)⟩
  have T2 := T1.k F2
  have s2 := num_step (C := fun f => contactP L x nd (μ 3 2) = .inl f) p1 s1 f2 k2 (fun h q h' => cP2 h.2 h')
  refine ⟨⟨by decide, by decide⟩, C_readNumber hg hx T2 p2 (by decide) (by decide) (fun ν3 v3 F3 b3 p3 f3 k3 => ?_)⟩
  have T3 := T2.k F3
  have s3 := num_step (C := fun f => contactP L x nd (μ 3 2) = .inl f) p2 s2 f3 k3 (fun h q h' => cP3 h.1.2 h.2 h')
  refine ⟨by unfold inR; omega, ⟨by decide, by decide⟩, C_readNumber hg hx T3 p3 (by omega) (by decide) (fun ν4 v4 F4 b4 p4 f4 k4 => ?_)⟩
  have T4 := T3.k F4
  have s4 := num_step (C := fun f => contactP L x nd (μ 3 2) = .inl f) p3 s3 f4 k4 (fun h q h' => cP4 h.1.1.2 h.1.2 h.2 h')
  refine ⟨⟨by decide, by decide⟩, C_readNumber hg hx T4 p4 (by decide) (by decide) (fun ν5 v5 F5 b5 p5 f5 k5 => ?_)⟩
  have T5 := T4.k F5
  have s5 := num_step (C := fun f => contactP L x nd (μ 3 2) = .inl f) p4 s4 f5 k5 (fun h q h' => cP5 h.1.1.1.2 h.1.1.2 h.1.2 h.2 h')
  refine ⟨⟨by decide, by decide⟩, C_readNumber hg hx T5 p5 (by decide) (by decide) (fun ν6 v6 F6 b6 p6 f6 k6 => ?_)⟩
  have T6 := T5.k F6
  have s6 := num_step (C := fun f => contactP L x nd (μ 3 2) = .inl f) p5 s5 f6 k6 (fun h q h' => cP6 h.1.1.1.1.2 h.1.1.1.2 h.1.1.2 h.1.2 h.2 h')
  refine ⟨⟨by decide, by decide⟩, C_readSemicolon hg hx T6 p6 (fun ν7 F7 p7 f7 k7 => ?_)⟩
  have F17 : FrK μ ν7 := (((((F1.tr F2).tr F3).tr F4).tr F5).tr F6).tr F7
  rcases s6 with ⟨g1, g2, g3⟩ | ⟨g1, g2⟩
  · -- all numbers are good
    have hc := cP7 (p := μ 3 2) g2.1.1.1.1.2 g2.1.1.1.2 g2.1.1.2 g2.1.2 g2.2 g3
    rw [if_pos g1] at f7
    cases hs : semiP L x (ν6 3 2) with
    | inl f =>
      rw [hs] at f7
      have e : ν7 3 3 = f := f7
      have hf0 : 0 ≤ f := by
        unfold semiP at hs
        split at hs
        · cases hs
        · cases hs
          have := (skP_ge (L := L) (x := x) (ν6 3 2)).1
          omega
      exact ⟨fun _ => ⟨⟨by decide, by decide⟩, q0 f hf0 (Or.inr ⟨_, hc, hs⟩) ν7 F17 e p7⟩, fun z => by omega⟩
    | inr p2 =>
      rw [hs] at f7
      have e2 := k7 p2 hs
      have hSH : SH (n : Int) = (1, 6) := by
        unfold SH
        rw [if_neg (by omega), List.getD_eq_getElem?_getD, List.getElem?_eq_none (by rw [SHL_len]; omega)]
        rfl
      have oc : ∀ m : Nat, n < m → Oc m (n : Int) 1 6 := fun m hm => ⟨by omega, by omega, hSH⟩
      refine ⟨fun z => absurd f7 z, fun _ => ⟨⟨by decide, by decide⟩, ⟨by decide, by decide⟩, ?_⟩⟩
      have ho := oc (n + 1) (by omega)
      refine m_X1_init (fun m ξ k v f => ?_) ⟨by omega, ho, ho, ho, ho, ho, ho, ⟨by decide, by decide⟩, ?_⟩
      · rw [hg] at f ⊢
        exact FX_up f (by rw [hSH]; rfl)
      have hN7 := NRel_K F17 hN
      -- the new cell
      have z4 : ∀ r : Int, r ≠ (n : Int) → (up (up (up (up (up (up (nw ν7 n (objD 1)) n 0 v1) n 1 v2) n 2 v3) n 3 v4) n 4 v5) n 5 v6) r = ν7 r := fun r hr => by rw [up_ne hr, up_ne hr, up_ne hr, up_ne hr, up_ne hr, up_ne hr, nw_ne hr]
      have zc : ∀ ξ : Mem, ξ = (up (up (up (up (up (up (nw ν7 n (objD 1)) n 0 v1) n 1 v2) n 2 v3) n 3 v4) n 4 v5) n 5 v6) → ξ n 0 = v1 ∧ ξ n 1 = v2 ∧ ξ n 2 = v3 ∧ ξ n 3 = v4 ∧ ξ n 4 = v5 ∧ ξ n 5 = v6 := by
        intro ξ e
        rw [e]
        refine ⟨?_, ?_, ?_, ?_, ?_, ?_⟩
        · rw [up_oth (by decide), up_oth (by decide), up_oth (by decide), up_oth (by decide), up_oth (by decide), up_self]
        · rw [up_oth (by decide), up_oth (by decide), up_oth (by decide), up_oth (by decide), up_self]
        · rw [up_oth (by decide), up_oth (by decide), up_oth (by decide), up_self]
        · rw [up_oth (by decide), up_oth (by decide), up_self]
        · rw [up_oth (by decide), up_self]
        · rw [up_self]
      generalize hξ : (up (up (up (up (up (up (nw ν7 n (objD 1)) n 0 v1) n 1 v2) n 2 v3) n 3 v4) n 4 v5) n 5 v6) = ξ at z4 ⊢
      have zc := zc ξ hξ.symm
      have x42 : ξ 4 2 = cn := by rw [z4 4 (by omega)]; exact hN7.2.1
      have x43 : ξ 4 3 = nd := by rw [z4 4 (by omega)]; exact hN7.1
      refine m_X3_addContact hg St_4 ⟨fun z => absurd z (by omega), fun _ => ⟨fun z => absurd z (by omega), fun _ => ⟨by omega, ?_⟩⟩⟩
      rw [x42]
      have w42 : (up ξ (4 + 2) cn (n : Int)) 4 2 = cn := by rw [up_ne (by decide)]; exact x42
      rw [w42]
      refine ⟨⟨ho.1, ho.2.1, ho.2.2⟩, by unfold inR; omega, ⟨by decide, by decide⟩, q1 _ p2 hc hs _ (fun r r1 r2 r3 r4 => ?_) ?_ ?_ (NRel_add hn hcn.1 hN7 (l := (v1, v2, v3, v4, v5, v6)) ⟨ho.1, ho.2.1, ho.2.2⟩ ⟨?_, up_self _ _ _ _⟩ (fun k hk => ?_) ?_ (fun p' hp' => ?_) ?_)⟩
      · rw [up_ne r2, up_ne (show r ≠ 4 + 2 by omega), z4 r (by omega)]
        exact F17 r r1
      · rw [up_ne (by decide), up_ne (by decide), z4 3 (by omega)]; exact f7
      · rw [up_ne (by decide), up_ne (by decide), z4 3 (by omega)]; exact e2
      · rw [up_oth (by decide), up_ne (by decide)]; exact x43
      · rw [up_ne (by decide), up_oth hk, z4 (4 + 2) (by omega)]
      · rw [up_ne (by decide), up_self]
      · rw [up_ne (by omega), up_ne (by omega), z4 p' (by omega)]
      · rw [up_ne (by omega), up_ne (by omega)]
        exact zc
  · rw [if_neg g1] at f7
    have hq := contactP_q hp g2
    exact ⟨fun _ => ⟨⟨by decide, by decide⟩, q0 _ hq.1 (Or.inl g2) ν7 F17 f7 p7⟩, fun z => by omega⟩
theorem C_readItem (hg : gx G = FX) {Q : Nat → Mem → Prop} {L nd cn items u : Int} {x rd : Int → Int} (hn : 415 ≤ n) (hx : TxP L x) (hT : TxR μ L x) (hp : 0 ≤ μ 3 2 ∧ μ 3 2 < L) (hf : μ 3 3 = -1) (hN : NRel n μ 4 nd cn rd) (hPW : PW nd cn rd) (hu : (u = 0 ↔ items ≠ 0))
    (q0 : ∀ f, 0 ≤ f → (itemP L x items nd cn rd (μ 3 2) = .inl f ∨ ∃ r, itemP L x items nd cn rd (μ 3 2) = .inr r ∧ semiP L x r.2.2.2 = .inl f) → ∀ ν, FrD4 n μ ν → ν 3 3 = f → (0 ≤ ν 3 2 ∧ ν 3 2 ≤ L) → Q n ν)
    (q1 : ∀ r p2, itemP L x items nd cn rd (μ 3 2) = .inr r → semiP L x r.2.2.2 = .inr p2 → ∀ (n' : Nat) ν, n ≤ n' → FrD4 n μ ν → ν 3 3 = -1 → ν 3 2 = p2 → NRel n' ν 4 r.1 r.2.1 r.2.2.1 → Q n' ν) : CV G Y_X4_readItem [.inr 3, .inl u] n μ Q := by
  have hL := hx.2.1
  have hcn := hPW.2.2.1
  have hc8 := hPW.2.2.2.1
  -- it is no item
  have bad : itemP L x items nd cn rd (μ 3 2) = .inl (μ 3 2) → B_X4_readItem_72 G Q 0 0 n μ := by
    intro hi
    refine b_X4_readItem_72 hg ⟨⟨by decide, by decide⟩, C_blame hg (fun ν hF e2 e3 => ⟨⟨by decide, by decide⟩, q0 (μ 3 2) hp.1 (Or.inl hi) ν (FrD4.rf.k hF) ?_ (by rw [e2]; omega)⟩)⟩
    rw [e3, if_pos hf]
  refine m_X4_readItem hg ⟨⟨by decide, by decide⟩, C_byteAt hg hL hT hp.1 (fun _ => ⟨fun z => ?_, fun z => ⟨fun y => ?_, fun y => ?_⟩⟩) (fun y => absurd y (by omega))⟩
  · refine b_X4_readItem_39 hg ⟨fun y => bad ?_, fun y => ⟨⟨by decide, by decide⟩, m_X3_hasRoom hg St_4 ?_⟩⟩
    · unfold itemP
      rw [if_neg z, if_neg y]
    · rw [hN.2.1]
      refine ⟨fun v => ⟨fun _ => bad (itemP_c8 y (by omega)), fun w => absurd rfl w⟩, fun v => ⟨fun w => absurd w (by decide), fun _ => ⟨by unfold inR; omega, ⟨by decide, by decide⟩, ?_⟩⟩⟩
      have hF0 : FrK μ (up μ 3 2 (μ 3 2 + 1)) := FrK.rf.u
      have e2 : (up μ 3 2 (μ 3 2 + 1)) 3 2 = μ 3 2 + 1 := up_self _ _ _ _
      refine C_readContact hg hn hx (hT.k hF0) (by rw [e2]; omega) (by rw [up_oth (by decide)]; exact hf) (NRel_K hF0 hN) ⟨hPW.1, hPW.2.1⟩ ⟨hcn, by omega⟩ (fun f hf0 h ν hF e3 hpos => ⟨⟨by decide, by decide⟩, q0 f hf0 ?_ ν (FrD4.rf.k (hF0.tr hF)) e3 hpos⟩) (fun r p2 h hs ν hF e3 hpos hNν => ⟨⟨by decide, by decide⟩, q1 _ p2 (itemP_c1 y (by omega) (by rw [← e2]; exact h)) hs (n + 1) ν (by omega) (fun r' r1 r2 r3 r4 => (hF r' r1 r2 r3 r4).trans (up_ne r1)) e3 hpos hNν⟩)
      rw [e2] at h
      rcases h with h | ⟨r, h, hs⟩
      · exact Or.inl (itemP_c0 y (by omega) h)
      · exact Or.inr ⟨_, itemP_c1 y (by omega) h, hs⟩
  · rw [z]
    refine b_X4_readItem_39 hg ⟨fun v => bad (itemP_n8 z (fun w => (hu.mp y) w)), fun v => absurd v (by decide)⟩
  · have hi : items = 0 := by
      by_cases c : items = 0
      · exact c
      · exact absurd (hu.mpr c) y
    have hF0 : FrK μ (up μ 3 2 (μ 3 2 + 1)) := FrK.rf.u
    have e2 : (up μ 3 2 (μ 3 2 + 1)) 3 2 = μ 3 2 + 1 := up_self _ _ _ _
    refine ⟨by unfold inR; omega, ⟨by decide, by decide⟩, C_readNodes hg hx (hT.k hF0) (by rw [e2]; omega) (by rw [up_oth (by decide)]; exact hf) (fun f hf0 h ν hF e3 hpos => ⟨⟨by decide, by decide⟩, q0 f hf0 ?_ ν (FrD4.rf.k (hF0.tr hF)) e3 hpos⟩) (fun r p2 h hs ν hF e3 hpos => ⟨⟨by decide, by decide⟩, q1 _ p2 (itemP_n1 z hi (by rw [← e2]; exact h)) hs n _ (Nat.le_refl _) (fun r' r1 r2 r3 r4 => ?_) ?_ ?_ ?_⟩)⟩
    · rw [e2] at h
      rcases h with h | ⟨r, h, hs⟩
      · exact Or.inl (itemP_n0 z hi h)
      · exact Or.inr ⟨_, itemP_n1 z hi h, hs⟩
    · rw [up_ne r2]
      exact (hF0.tr hF) r' r1
    · rw [up_ne (by decide)]; exact e3
    · rw [up_ne (by decide)]; exact hpos
    · have hN2 := NRel_K (hF0.tr hF) hN
      obtain ⟨a, b, c⟩ := hN2
      refine ⟨up_self _ _ _ _, by rw [up_oth (by decide)]; exact b, fun i i0 i1 => ?_⟩
      have h' := c i i0 i1
      have hpl := Co_place h'.1
      rw [up_ne (show (4 : Int) + 2 ≠ 4 by decide)]
      refine ⟨h'.1, fun k k0 k1 => ?_⟩
      rw [up_ne (by omega)]
      exact h'.2 k k0 k1
theorem C_readPlan (hg : gx G = FX) {Q : Int → Nat → Mem → Prop} {L : Int} {x rd0 : Int → Int} (hn : 415 ≤ n) (hx : TxP L x) (hT : TxR μ L x)
    (q0 : ∀ f, 0 ≤ f → textP L x rd0 = .inl f → ∀ (n' : Nat) ν, n ≤ n' → FrD4 n μ ν → Q (-10 - f) n' ν)
    (q1 : ∀ r, textP L x rd0 = .inr r → 0 ≤ r.1 → ∀ (n' : Nat) ν, n ≤ n' → FrD4 n μ ν → NRel n' ν 4 r.2.1 r.2.2.1 r.2.2.2 → Q r.1 n' ν) : CI G Y_X4_readPlan [.inr 3] n μ Q := by
  have hL := hx.2.1
  have hL0 := hx.1
  have key : ∀ (k : Nat) (items nd cn p : Int) (rd : Int → Int) (c0 s0 : Nat) (m : Nat) (ν : Mem), L - p < k → (c0 : Int) = items → (s0 : Int) = 6 * items → 0 ≤ items → items ≤ p → p ≤ L → PW nd cn rd → (items = 0 → cn = 0) → n ≤ m → FrD4 n μ ν → ν 3 3 = -1 → ν 3 2 = p → NRel m ν 4 nd cn rd → runP L x k items nd cn rd p = textP L x rd0 → B_X4_readPlan_23 G Q c0 s0 m ν items := by
    intro k
    induction k with
    | zero => intro items nd cn p rd c0 s0 m ν h; omega
    | succ k ih =>
      intro items nd cn p rd c0 s0 m ν hk hc0 hs0 hi hip hpL hPW hi0 hm hF hf hpos hN hrun
      have hTx := hT.d hn hF
      unfold runP at hrun
      have done : L ≤ p → B_X4_readPlan_75 G Q c0 s0 m ν items := by
        intro hend
        rw [if_pos hend] at hrun
        exact b_X4_readPlan_75 hg ⟨fun z => absurd hf z, fun _ => ⟨⟨by omega, by omega⟩, q1 (items, nd, cn, rd) hrun.symm hi m ν hm hF hN⟩⟩
      by_cases hend : L ≤ p
      · refine b_X4_readPlan_23 hg ⟨fun _ => done hend, fun _ => ⟨fun _ => done hend, fun z => absurd (by rw [hTx.1, hpos]; exact hend) z⟩⟩
      · rw [if_neg hend] at hrun
        have item : ∀ u, (u = 0 ↔ items ≠ 0) → B_X4_readPlan_62 G Q c0 s0 m ν items u 3 := by
          intro u hu
          refine b_X4_readPlan_62 hg St_3 ⟨⟨by omega, by omega⟩, C_readItem hg (by omega) hx hTx (by rw [hpos]; omega) hf hN hPW hu (fun f hf0 h ξ hFx e3 hposx => ?_) (fun r p2 h hs m' ξ hm' hFx e3 hposx hNx => ?_)⟩
          · rw [hpos] at h
            have ht : textP L x rd0 = .inl f := by
              rw [← hrun]
              rcases h with h | ⟨r, h, hs⟩
              · rw [h]
              · rw [h]; simp only; rw [hs]
            have hF' := FrD4.tr (by omega) hF hFx
            have hTξ := hT.d hn hF'
            refine ⟨by unfold inR; omega, ⟨by omega, by omega⟩, C_skip hg hx hTξ hposx (fun η hFe e2 e33 => ?_)⟩
            have e3' : η 3 3 = f := by rw [e33]; exact e3
            have fin : B_X4_readPlan_75 G Q (c0 + 1) (s0 + 6) m η (items + 1) := by
              refine b_X4_readPlan_75 hg ⟨fun _ => ⟨?_, ⟨by omega, by omega⟩, ?_⟩, fun z => absurd z (by omega)⟩
              · rw [e3']
                -- the fault lies in the text
                have hq : f ≤ 150 ∨ 150 < f := by omega
                rcases h with h | ⟨r, h, hs⟩
                · unfold itemP at h
                  have hpp : 0 ≤ p ∧ p ≤ L := by omega
                  split at h
                  · split at h
                    · cases hnum : numP L x 2 6 (-1) (p + 1) with
                      | inl q =>
                        rw [hnum] at h
                        cases h
                        have := numP_q (p := p + 1) (by omega) hnum
                        unfold inR; omega
                      | inr v => rw [hnum] at h; cases h
                    · cases h; unfold inR; omega
                  · split at h
                    · split at h
                      · cases hcon : contactP L x nd (p + 1) with
                        | inl q =>
                          rw [hcon] at h
                          cases h
                          have := contactP_q (p := p + 1) (by omega) hcon
                          unfold inR; omega
                        | inr v => rw [hcon] at h; cases h
                      · cases h; unfold inR; omega
                    · cases h; unfold inR; omega
                · have hpo := itemP_pos (by omega) h
                  have hsk := (skP_ge (L := L) (x := x) r.2.2.2)
                  have := hsk.2.1 hpo.2
                  unfold semiP at hs
                  split at hs
                  · cases hs
                  · cases hs; unfold inR; omega
              · rw [e3']
                exact q0 f hf0 ht m η hm (hF'.k hFe)
            exact b_X4_readPlan_23 hg ⟨fun _ => fin, fun _ => ⟨fun _ => fin, fun _ => ⟨fun _ => fin, fun z => absurd z (by omega)⟩⟩⟩
          · rw [hpos] at h
            rw [h] at hrun
            simp only at hrun
            rw [hs] at hrun
            simp only at hrun
            have hpo := itemP_pos (show 0 ≤ p ∧ p < L by omega) h
            have hse := semiP_pos hpo.2 hs
            have hsk := (skP_ge (L := L) (x := x) p2)
            have hF' := FrD4.tr (by omega) hF hFx
            have hTξ := hT.d hn hF'
            refine ⟨by unfold inR; omega, ⟨by omega, by omega⟩, C_skip hg hx hTξ (by omega) (fun η hFe e2 e33 => ?_)⟩
            refine ih (items + 1) r.1 r.2.1 (skP L x p2) r.2.2.1 (c0 + 1) (s0 + 6) m' η (by omega) (by omega) (by omega) (by omega) (by omega) (hsk.2.1 hse.2.1) (itemP_PW hPW hi0 h) (fun z => by omega) (by omega) (hF'.k hFe) (by rw [e33]; exact e3) (by rw [e2, hposx]) (NRel_K hFe hNx) hrun
        refine b_X4_readPlan_23 hg ⟨fun z => absurd z (by omega), fun _ => ⟨fun z => absurd z (by rw [hTx.1, hpos]; exact hend), fun _ => ⟨fun z => absurd hf z, fun _ => ⟨fun z => item 0 ⟨fun _ => z, fun _ => rfl⟩, fun z => item 1 ⟨fun y => absurd y (by decide), fun y => absurd z y⟩⟩⟩⟩⟩
  have hF0 : FrD4 n μ (up (up μ 4 2 0) 4 3 2) := fun r r1 r2 r3 r4 => by rw [up_ne r2, up_ne r2]
  have hF1 : FrD4 n μ (up (up (up (up μ 4 2 0) 4 3 2) 3 2 0) 3 3 (-1)) := (hF0.k FrK.rf.u).k FrK.rf.u
  have hT1 := hT.d hn hF1
  have e32 : (up (up (up (up μ 4 2 0) 4 3 2) 3 2 0) 3 3 (-1)) 3 2 = 0 := by rw [up_oth (by decide), up_self]
  refine m_X4_readPlan hg ⟨⟨by decide, by decide⟩, m_X3_reset hg St_4 ⟨⟨by decide, by decide⟩, C_skip hg hx hT1 (by rw [e32]; omega) (fun ν hF e2 e3 => ?_)⟩⟩
  rw [e32] at e2
  rw [up_self] at e3
  have hsk := (skP_ge (L := L) (x := x) 0)
  refine key (L.toNat + 1) 0 2 0 (skP L x 0) rd0 0 0 n ν (by omega) rfl rfl (by decide) hsk.1 (hsk.2.1 hL0) ⟨by decide, by decide, by decide, by decide, fun c c0 c1 => by omega⟩ (fun _ => rfl) (Nat.le_refl _) (hF1.k hF) e3 e2 ⟨?_, ?_, fun c c0 c1 => by omega⟩ rfl
  · rw [hF 4 (by decide), up_ne (by decide), up_ne (by decide), up_self]
  · rw [hF 4 (by decide), up_ne (by decide), up_ne (by decide), up_oth (by decide), up_self]
/-- the draft becomes the network -/
theorem C_ncopy (hg : gx G = FX) {Q : Nat → Mem → Prop} {nd cn : Int} {of : Int → Int} (h8 : 0 ≤ cn ∧ cn ≤ 8) (hN : NRel n μ 4 nd cn of) (q : ∀ ν, (∀ r, r ≠ 7 → r ≠ 7 + 2 → ν r = μ r) → NRel n ν 7 nd cn of → Q n ν) : CV G Y_X3_copyFrom [.inr 7, .inr 4] n μ Q := by
  refine m_X3_copyFrom hg St_7 St_4 ?_
  rw [hN.1]
  have key : ∀ (d : Nat) (c : Int) (ν : Mem), c + d = cn → 0 ≤ c → (∀ r, r ≠ 7 → r ≠ 7 + 2 → ν r = μ r) → ν 7 3 = nd → ν 7 2 = c → (∀ i, 0 ≤ i → i < c → ν (7 + 2) i = μ (4 + 2) i) → B_X3_copyFrom_15 G Q n ν 7 4 c := by
    intro d
    induction d with
    | zero =>
      intro c ν e c0 hF h3 h2 ha
      have ec : c = cn := by omega
      subst ec
      refine b_X3_copyFrom_15 hg St_7 St_4 ⟨fun _ => q ν hF ⟨h3, h2, fun i i0 i1 => ?_⟩, fun z => absurd (by rw [hF 4 (by decide) (by decide), hN.2.1]; omega) z⟩
      have h := hN.2.2 i i0 i1
      have hp := Co_place h.1
      rw [ha i i0 i1]
      refine ⟨h.1, fun k k0 k1 => ?_⟩
      rw [hF _ (by omega) (by omega)]
      exact h.2 k k0 k1
    | succ d ih =>
      intro c ν e c0 hF h3 h2 ha
      have h := hN.2.2 c c0 (by omega)
      have e4 : ν 4 = μ 4 := hF 4 (by decide) (by decide)
      have e6 : ν (4 + 2) = μ (4 + 2) := hF (4 + 2) (by decide) (by decide)
      have hp0 := h.1.1
      refine b_X3_copyFrom_15 hg St_7 St_4 ⟨fun z => absurd z (by rw [e4, hN.2.1]; omega), fun _ => m_X3_contactAt hg St_4 ⟨fun z => absurd z (by omega), fun _ => ⟨fun z => absurd z (by rw [e4, hN.2.1]; omega), fun _ => ⟨fun _ => ⟨by omega, fun _ => ?_, fun z => absurd z (by rw [e6]; omega)⟩, fun z => absurd (by omega) z⟩⟩⟩⟩
      rw [e6]
      refine ⟨hp0, m_X3_addContact hg St_7 ⟨fun z => absurd z (by omega), fun _ => ⟨fun z => absurd z (by omega), fun _ => ⟨by omega, h.1, ?_⟩⟩⟩⟩
      have w2 : (up ν (7 + 2) (ν 7 2) (μ (4 + 2) c)) 7 2 = c := by rw [up_ne (by decide)]; exact h2
      rw [w2, h2]
      refine ⟨by unfold inR; omega, by unfold inR; omega, ih (c + 1) _ (by omega) (by omega) (fun r r1 r2 => by rw [up_ne r1, up_ne r2]; exact hF r r1 r2) ?_ (up_self _ _ _ _) (fun i i0 i1 => ?_)⟩
      · rw [up_oth (by decide), up_ne (by decide)]; exact h3
      · rw [up_ne (by decide)]
        by_cases ei : i = c
        · rw [ei, up_self]
        · rw [up_oth ei]
          exact ha i i0 (by omega)
  refine key cn.toNat 0 _ (by omega) (by decide) (fun r r1 r2 => by rw [up_ne r1, up_ne r1]) ?_ (up_self _ _ _ _) (fun i i0 i1 => by omega)
  rw [up_oth (by decide), up_self]
end ReadPlan
