-- the class: the router seeks the best way
theorem getD_app1 {l : List Int} {x : Int} {k : Nat} (h : k < l.length) : (l ++ [x]).getD k 0 = l.getD k 0 := by
  rw [List.getD_eq_getElem?_getD, List.getD_eq_getElem?_getD, List.getElem?_append_left h]
theorem getD_app2 {l : List Int} {x : Int} : (l ++ [x]).getD l.length 0 = x := by
  rw [List.getD_eq_getElem?_getD, List.getElem?_append_right (Nat.le_refl _), Nat.sub_self]
  rfl
theorem len_app1 {l : List Int} {x : Int} : (l ++ [x]).length = l.length + 1 := by
  rw [List.length_append]; rfl
section RwTs
variable {cn w out t0 v0 : Int} {of s : Int → Int} {tk : Int → Int → Prop} {μ ν : Mem} {a : Int} {l : List Int}
theorem RwT_keep (h : ∀ j, 0 ≤ j → j < 4 * (l.length : Int) → ν a j = μ a j) (q : RwT of s tk w μ a l t0) : RwT of s tk w ν a l t0 := by
  intro k hk
  have := q k hk
  rw [h _ (by omega) (by omega), h _ (by omega) (by omega), h _ (by omega) (by omega), h _ (by omega) (by omega)]
  exact this
theorem RwT_app {u b c r : Int} (hw : WK cn (Fc of) (Tc of) (EE cn of s tk w out) l v0 t0 u b) (hr : fbP of s tk c (tkD of w c) b = some r) (q : RwT of s tk w ν a l t0) (h0 : ν a (4 * (l.length : Int) + 0) = c) (h1 : ν a (4 * (l.length : Int) + 1) = r) (h2 : ν a (4 * (l.length : Int) + 2) = r + tkD of w c) (h3 : ν a (4 * (l.length : Int) + 3) = r + tkD of w c + cf of c 5) : RwT of s tk w ν a (l ++ [c]) t0 := by
  intro k hk
  rw [len_app1] at hk
  have hb := wayB_app (c := c) l hw
  rw [hr] at hb
  have hl := wayB_len (of := of) (s := s) (tk := tk) (w := w) l t0
  rw [hb]
  by_cases e : k < l.length
  · rw [getD_app1 e, getD_app1 (by rw [hl]; exact e)]
    exact q k e
  · have ek : k = l.length := by omega
    subst ek
    have e2 : (wayB of s tk w l t0 ++ [r]).getD l.length 0 = r := by
      have := getD_app2 (l := wayB of s tk w l t0) (x := r)
      rw [hl] at this
      exact this
    rw [getD_app2, show (wayB of s tk w l t0 ++ [(some r).getD 9999]).getD l.length 0 = r from e2]
    exact ⟨h0, h1, h2, h3⟩
theorem RwT_pre {u b c : Int} (hw : WK cn (Fc of) (Tc of) (EE cn of s tk w out) l v0 t0 u b) (q : RwT of s tk w ν a (l ++ [c]) t0) : RwT of s tk w ν a l t0 := by
  intro k hk
  have := q k (by rw [len_app1]; omega)
  rw [wayB_app l hw, getD_app1 hk, getD_app1 (by rw [wayB_len]; exact hk)] at this
  exact this
end RwTs
/-- nothing but the router's own rows has changed; of its fields but the best arrival none -/
def FrE (μ ν : Mem) : Prop := (∀ r, r ≠ 10 → r ≠ 13 → r ≠ 13 + 1 → r ≠ 15 → r ≠ 15 + 1 → ν r = μ r) ∧ ∀ k, k ≠ 4 → ν 10 k = μ 10 k
theorem FrE.rf {μ : Mem} : FrE μ μ := ⟨fun _ _ _ _ _ _ => rfl, fun _ _ => rfl⟩
theorem FrE.tr {μ ν ξ : Mem} (h : FrE μ ν) (h2 : FrE ν ξ) : FrE μ ξ := ⟨fun r r1 r2 r3 r4 r5 => (h2.1 r r1 r2 r3 r4 r5).trans (h.1 r r1 r2 r3 r4 r5), fun k hk => (h2.2 k hk).trans (h.2 k hk)⟩
theorem FrE.t13 {μ ν ξ : Mem} (h : FrE μ ν) (h2 : ButT 13 ν ξ) : FrE μ ξ := ⟨fun r r1 r2 r3 r4 r5 => (h2.1 r r2 r3).trans (h.1 r r1 r2 r3 r4 r5), fun k hk => (congrFun (h2.1 10 (by decide) (by decide)) k).trans (h.2 k hk)⟩
theorem FrE.t15 {μ ν ξ : Mem} (h : FrE μ ν) (h2 : ButT 15 ν ξ) : FrE μ ξ := ⟨fun r r1 r2 r3 r4 r5 => (h2.1 r r4 r5).trans (h.1 r r1 r2 r3 r4 r5), fun k hk => (congrFun (h2.1 10 (by decide) (by decide)) k).trans (h.2 k hk)⟩
theorem FrE.b {μ ν : Mem} {v : Int} (h : FrE μ ν) : FrE μ (up ν 10 4 v) := ⟨fun r r1 r2 r3 r4 r5 => (up_ne r1).trans (h.1 r r1 r2 r3 r4 r5), fun k hk => (up_oth hk).trans (h.2 k hk)⟩
/-- how the router stands in the midst of seeking -/
def EXs (n : Nat) (nd cn : Int) (of s : Int → Int) (tk : Int → Int → Prop) (w out g v0 t0 : Int) (μ : Mem) (B : Int) (L : List Int) (X : List Int → Prop) (pre : List Int) : Prop :=
  NRel n μ 7 nd cn of ∧ RunT μ cn (FreeP of s tk) ∧ μ 10 5 = g ∧ μ 10 6 = w ∧ μ 10 7 = out ∧ μ 10 4 = B ∧ μ 15 2 = (L.length : Int) ∧ RwT of s tk w μ (15 + 1) L t0 ∧ ((pre.length : Int) ≤ μ 13 2 ∧ μ 13 2 ≤ 6) ∧ RwT of s tk w μ (13 + 1) pre t0 ∧ Opt cn (Fc of) (Tc of) (EE cn of s tk w out) v0 t0 g X B L
section Explore
variable {G : GT} {n : Nat} {μ : Mem}
theorem C_ticksFor (hg : gx G = FX) {Q : Int → Nat → Mem → Prop} {p c w : Int} {of : Int → Int} (hco : Co n p) (e4 : μ p 4 = cf of c 4) (h : 1 ≤ cf of c 4 ∧ cf of c 4 ≤ 9) (hw : 1 ≤ w ∧ w ≤ 20) (q : Q (tkD of w c) n μ) : CI G Y_X1_ticksFor [.inr p, .inl w] n μ Q := by
  refine m_X1_ticksFor hg ⟨hco, ?_⟩
  rw [e4]
  exact ⟨fun _ => ⟨hco, by unfold inR; omega, by unfold inR; omega, hco, ⟨by omega, by omega⟩, q⟩, fun z => absurd h.1 z⟩
theorem C_setTrail (hg : gx G = FX) {Q : Nat → Mem → Prop} {dp v2 v3 v4 v5 : Int} (hd : 0 ≤ dp ∧ dp ≤ 5) (h13 : dp ≤ μ 13 2 ∧ μ 13 2 ≤ 6)
    (q : ∀ ν, ButT 13 μ ν → ν 13 2 = dp + 1 → (∀ j, 0 ≤ j → j < 4 * dp → ν (13 + 1) j = μ (13 + 1) j) → ν (13 + 1) (4 * dp + 0) = v2 → ν (13 + 1) (4 * dp + 1) = v3 → ν (13 + 1) (4 * dp + 2) = v4 → ν (13 + 1) (4 * dp + 3) = v5 → Q n ν) : CV G Y_X6_setTrail [.inr 10, .inl dp, .inl v2, .inl v3, .inl v4, .inl v5] n μ Q := by
  refine m_X6_setTrail hg (T_cut hg St_13 hd.1 (by omega) ?_)
  have e : (if dp < μ 13 2 then dp else μ 13 2) = dp := by split <;> omega
  rw [e]
  refine T_addRow hg Tb_13 (by rw [up_self]; omega) (by rw [up_self]; omega) ?_
  rw [up_self]
  have r1 : (up (up μ 13 2 dp) 13 2 (dp + 1)) 13 2 = dp + 1 := up_self _ _ _ _
  refine T_put hg Tb_13 (by rw [r1]; omega) (by rw [r1]; omega) (by decide) ?_
  have r2 : ∀ k v, (up (up (up μ 13 2 dp) 13 2 (dp + 1)) (13 + 1) k v) 13 2 = dp + 1 := fun k v => by rw [up_ne (by decide)]; exact r1
  refine T_put hg Tb_13 (by rw [r2]; omega) (by rw [r2]; omega) (by decide) ?_
  have r3 : ∀ k v k' v', (up (up (up (up μ 13 2 dp) 13 2 (dp + 1)) (13 + 1) k v) (13 + 1) k' v') 13 2 = dp + 1 := fun k v k' v' => by rw [up_ne (by decide)]; exact r2 k v
  refine T_put hg Tb_13 (by rw [r3]; omega) (by rw [r3]; omega) (by decide) ?_
  have r4 : ∀ k v k' v' k'' v'', (up (up (up (up (up μ 13 2 dp) 13 2 (dp + 1)) (13 + 1) k v) (13 + 1) k' v') (13 + 1) k'' v'') 13 2 = dp + 1 := fun k v k' v' k'' v'' => by rw [up_ne (by decide)]; exact r3 k v k' v'
  refine T_put hg Tb_13 (by rw [r4]; omega) (by rw [r4]; omega) (by decide) ?_
  refine q _ (ButT.rf.r.r.c.c.c.c) (by rw [up_ne (by decide)]; exact r4 _ _ _ _ _ _) (fun j j0 j1 => ?_) ?_ ?_ ?_ ?_
  · rw [up_oth (by omega), up_oth (by omega), up_oth (by omega), up_oth (by omega), up_ne (by decide), up_ne (by decide)]
  · rw [up_oth (by omega), up_oth (by omega), up_oth (by omega), up_self]
  · rw [up_oth (by omega), up_oth (by omega), up_self]
  · rw [up_oth (by omega), up_self]
  · rw [up_self]
theorem C_explore (hg : gx G = FX) {nd cn w out g v0 t0 : Int} {of s : Int → Int} {tk : Int → Int → Prop} (hp : PW nd cn of) (hw : 1 ≤ w ∧ w ≤ 20) (ht0 : 0 ≤ t0 ∧ t0 ≤ 108) :
    ∀ (d : Nat) (pre : List Int) (node at' sn B : Int) (L : List Int) (S : Int → Prop) (X : List Int → Prop) (μ : Mem) (Q : Nat → Mem → Prop), pre.length + d = 5 → WK cn (Fc of) (Tc of) (EE cn of s tk w out) pre v0 t0 node at' → 0 ≤ at' ∧ at' ≤ 108 → st8 sn → (∀ u, 0 ≤ u → u < 8 → (msB sn u ↔ S u)) → (∀ l m, X l → m ≠ [] → l.length = (pre ++ m).length → lexB l (pre ++ m)) → EXs n nd cn of s tk w out g v0 t0 μ B L X pre →
      (∀ ν B' L', FrE μ ν → EXs n nd cn of s tk w out g v0 t0 ν B' L' (fun m => X m ∨ ∃ m', m = pre ++ m' ∧ SX cn (Fc of) (Tc of) (EE cn of s tk w out) g d S node at' m') pre → Q n ν) →
      CV G (Y_X6_explore (d + 1)) [.inr 10, .inl node, .inl at', .inl (pre.length : Int), .inl sn] n μ Q := by
  have hcn := hp.2.2.1
  have hc8 := hp.2.2.2.1
  have hnd := hp.2.1
  intro d
  induction d with
  | zero =>
    intro pre node at' sn B L S X μ Q hl hwk hat hsn hS hX hE q
    refine m_X6_explore hg St_10 ⟨fun z => absurd z (by omega), fun _ => q μ B L FrE.rf ?_⟩
    obtain ⟨e1, e2, e3, e4, e5, e6, e7, e8, e9, e10, e11⟩ := hE
    refine ⟨e1, e2, e3, e4, e5, e6, e7, e8, e9, e10, Opt_cong (fun m => ⟨Or.inl, fun z => ?_⟩) e11⟩
    rcases z with z | ⟨m', -, hne, hl', -⟩
    · exact z
    · exact absurd (List.eq_nil_of_length_eq_zero (by omega)) hne
  | succ d ih =>
    intro pre node at' sn B L S X μ Q hl hwk hat hsn hS hX hE q
    -- what has been looked at before a contact is tried
    have key : ∀ (j : Nat) (c : Int) (ν : Mem) (B : Int) (L : List Int), c + j = cn → 0 ≤ c → FrE μ ν → EXs n nd cn of s tk w out g v0 t0 ν B L (fun m => X m ∨ ∃ e m', m = pre ++ (e :: m') ∧ e < c ∧ SX cn (Fc of) (Tc of) (EE cn of s tk w out) g (d + 1) S node at' (e :: m')) pre → B_X6_explore_9 G (d + 1) Q n ν 10 node at' (pre.length : Int) sn c := by
      intro j
      induction j with
      | zero =>
        intro c ν B L e c0 hF hEν
        have ec : c = cn := by omega
        obtain ⟨e1, e2, e3, e4, e5, e6, e7, e8, e9, e10, e11⟩ := hEν
        refine b_X6_explore_9 hg St_10 ⟨fun _ => q ν B L hF ⟨e1, e2, e3, e4, e5, e6, e7, e8, e9, e10, Opt_cong (fun m => ⟨fun z => ?_, fun z => ?_⟩) e11⟩, fun z => absurd (by rw [e1.2.1]; omega) z⟩
        · rcases z with z | ⟨f, m', h1, -, h2⟩
          · exact Or.inl z
          · exact Or.inr ⟨f :: m', h1, h2⟩
        · rcases z with z | ⟨m', h1, h2⟩
          · exact Or.inl z
          · cases m' with
            | nil => exact absurd rfl h2.1
            | cons f m' => exact Or.inr ⟨f, m', h1, by have := (SX_cons.mp h2).1.2.1; omega, h2⟩
      | succ j ihj =>
        intro c ν B L e c0 hF hEν
        have c1 : c < cn := by omega
        have hof := hp.2.2.2.2 c c0 c1
        have htk := tkD_le hw.1 hw.2 hof.2.2.2.2.2.2.2.2.2.1 hof.2.2.2.2.2.2.2.2.2.2.1
        have hEν' := hEν
        obtain ⟨e1, e2, e3, e4, e5, e6, e7, e8, e9, e10, e11⟩ := hEν'
        -- nothing goes on with this contact
        have skip : (∀ m', ¬ SX cn (Fc of) (Tc of) (EE cn of s tk w out) g (d + 1) S node at' (c :: m')) → inR (c + 1) ∧ B_X6_explore_9 G (d + 1) Q n ν 10 node at' (pre.length : Int) sn (c + 1) := by
          intro hno
          refine ⟨by unfold inR; omega, ihj (c + 1) ν B L (by omega) (by omega) hF ⟨e1, e2, e3, e4, e5, e6, e7, e8, e9, e10, Opt_cong (fun m => ⟨fun z => ?_, fun z => ?_⟩) e11⟩⟩
          · rcases z with z | ⟨f, m', h1, h2, h3⟩
            · exact Or.inl z
            · exact Or.inr ⟨f, m', h1, by omega, h3⟩
          · rcases z with z | ⟨f, m', h1, h2, h3⟩
            · exact Or.inl z
            · by_cases ef : f = c
              · rw [ef] at h3; exact absurd h3 (hno m')
              · exact Or.inr ⟨f, m', h1, by omega, h3⟩
        have skip9 : EE cn of s tk w out c at' = 9999 → inR (c + 1) ∧ B_X6_explore_9 G (d + 1) Q n ν 10 node at' (pre.length : Int) sn (c + 1) := by
          intro h9
          refine skip (fun m' h => ?_)
          have := (SX_cons.mp h).1.2.2.2.1
          omega
        refine b_X6_explore_9 hg St_10 ⟨fun z => absurd z (by rw [e1.2.1]; omega), fun _ => S_contactAt hg St_7 e1 hc8 ⟨c0, c1⟩ (fun p hco hpk => ⟨fun z => skip9 ?_, fun z => ⟨hco, ?_⟩⟩)⟩
        · unfold EE
          rw [e5] at z
          exact if_pos (Or.inl z)
        rw [e5] at z
        have hpp := Co_place hco
        rw [hpk 0 (by decide) (by decide)]
        refine ⟨fun y => skip (fun m' h => y (SX_cons.mp h).1.2.2.1), fun y => ⟨hco, ?_⟩⟩
        rw [hpk 1 (by decide) (by decide)]
        have hT8 : 0 ≤ cf of c 1 ∧ cf of c 1 < 8 := by omega
        refine ⟨fun x => ⟨hco, ?_⟩, fun x => skip (fun m' h => (SX_cons.mp h).1.2.2.2.2 ((hS _ hT8.1 hT8.2).mp x))⟩
        have hnS : ¬ S (Tc of c) := fun h => x ((hS _ hT8.1 hT8.2).mpr h)
        rw [e4]
        refine C_ticksFor hg hco (hpk 4 (by decide) (by decide)) (by omega) hw ?_
        refine C_firstBegin hg hp ⟨c0, c1⟩ htk.1 ⟨hat.1, by omega⟩ e2 (fun hno => ?_) (fun r hm hr => ?_)
        · rw [hpk 5 (by decide) (by decide), e6]
          refine ⟨by unfold inR; omega, hco, by unfold inR; omega, fun _ => skip9 ?_, fun u => absurd rfl u⟩
          unfold EE
          by_cases hm : msB (s 1) c
          · exact if_pos (Or.inr (Or.inl hm))
          · have hn := hno.resolve_left hm
            split
            · rfl
            · unfold endE
              rw [hn]
        · rw [hpk 5 (by decide) (by decide), e6]
          have hfb := fbP_in hr htk.1
          have hEE : EE cn of s tk w out c at' = r + tkD of w c + cf of c 5 := by
            rw [EE_end z hm ⟨c0, c1⟩]
            unfold endE
            rw [hr]
          have hlt : EE cn of s tk w out c at' < 9999 := by rw [hEE]; omega
          have hwk1 : ∀ u, u = cf of c 1 → WK cn (Fc of) (Tc of) (EE cn of s tk w out) (pre ++ [c]) v0 t0 u (r + tkD of w c + cf of c 5) := by
            intro u hu
            refine WK_app.mpr ⟨at', ?_, c0, c1, hlt, hu.symm, hEE⟩
            rw [show Fc of c = node from y]
            exact hwk
          have hstep : 0 ≤ c ∧ c < cn ∧ Fc of c = node ∧ EE cn of s tk w out c at' < 9999 ∧ ¬ S (Tc of c) := ⟨c0, c1, y, hlt, hnS⟩
          refine ⟨by unfold inR; omega, hco, by unfold inR; omega, fun u => absurd u (by omega), fun _ => ⟨fun u => ⟨by unfold inR; omega, ?_⟩, fun u => ?_⟩⟩
          · -- it is not too late
            refine C_setTrail hg ⟨by omega, by omega⟩ e9 (fun ξ hξ x2 x3 x40 x41 x42 x43 => ⟨hco, ?_⟩)
            have xp : ξ p = ν p := hξ.1 p (by omega) (by omega)
            have x10 : ξ 10 = ν 10 := hξ.1 10 (by decide) (by decide)
            have x15 : ξ 15 = ν 15 := hξ.1 15 (by decide) (by decide)
            have x16 : ξ (15 + 1) = ν (15 + 1) := hξ.1 (15 + 1) (by decide) (by decide)
            have x12 : ξ (11 + 1) = ν (11 + 1) := hξ.1 (11 + 1) (by decide) (by decide)
            have x11 : ξ 11 = ν 11 := hξ.1 11 (by decide) (by decide)
            have hNξ := NRel_T (Or.inr (Or.inl rfl)) hξ e1
            have hRξ : RunT ξ cn (FreeP of s tk) := by unfold RunT; rw [x11, x12]; exact e2
            have hF' : FrE μ ξ := hF.t13 hξ
            have hRw : RwT of s tk w ξ (13 + 1) (pre ++ [c]) t0 := RwT_app hwk hr (RwT_keep (fun j j0 j1 => x3 j j0 j1) e10) x40 x41 x42 x43
            rw [xp, hpk 1 (by decide) (by decide), x10, x15, e3, e6, e7]
            -- the whole way is better
            have better : Tc of c = g → (r + tkD of w c + cf of c 5 < B ∨ (r + tkD of w c + cf of c 5 ≤ B ∧ (pre ++ [c]).length < L.length)) → B_X6_explore_198 G (d + 1) Q n ξ 10 node at' (pre.length : Int) sn c (r + tkD of w c + cf of c 5) := by
              intro hTg hbt
              have u15 : (up (up ξ 10 4 (r + tkD of w c + cf of c 5)) 15 2 0) 15 2 = 0 := up_self _ _ _ _
              have u13 : (up (up ξ 10 4 (r + tkD of w c + cf of c 5)) 15 2 0) 13 2 = (pre.length : Int) + 1 := by rw [up_ne (by decide), up_ne (by decide)]; exact x2
              have u14 : (up (up ξ 10 4 (r + tkD of w c + cf of c 5)) 15 2 0) (13 + 1) = ξ (13 + 1) := by rw [up_ne (by decide), up_ne (by decide)]
              refine b_X6_explore_198 hg St_10 (T_cut0 hg St_15 (T_append hg Tb_15 Tb_13 (by decide) (by rw [u15]; decide) (by rw [u13]; omega) (by rw [u15, u13]; omega) (fun η hη h2 h3 h4 => ⟨by unfold inR; omega, ?_⟩)))
              rw [u15, u13] at h2
              rw [u15, u13, u14] at h4
              have y10 : η 10 = (up (up ξ 10 4 (r + tkD of w c + cf of c 5)) 15 2 0) 10 := hη.1 10 (by decide) (by decide)
              have y13 : η 13 = ξ 13 := by rw [hη.1 13 (by decide) (by decide), up_ne (by decide), up_ne (by decide)]
              have y14 : η (13 + 1) = ξ (13 + 1) := by rw [hη.1 (13 + 1) (by decide) (by decide), up_ne (by decide), up_ne (by decide)]
              have y11 : η 11 = ξ 11 := by rw [hη.1 11 (by decide) (by decide), up_ne (by decide), up_ne (by decide)]
              have y12 : η (11 + 1) = ξ (11 + 1) := by rw [hη.1 (11 + 1) (by decide) (by decide), up_ne (by decide), up_ne (by decide)]
              have hNη : NRel n η 7 nd cn of := by
                refine NRel_keep (Nat.le_refl _) ?_ ?_ (fun p' hp' => ?_) hNξ
                · rw [hη.1 7 (by decide) (by decide), up_ne (by decide), up_ne (by decide)]
                · rw [hη.1 (7 + 2) (by decide) (by decide), up_ne (by decide), up_ne (by decide)]
                · rw [hη.1 p' (by omega) (by omega), up_ne (by omega), up_ne (by omega)]
              refine ihj (c + 1) η (r + tkD of w c + cf of c 5) (pre ++ [c]) (by omega) (by omega) ((hF'.b.t15 ButT.rf.r).t15 hη) ⟨hNη, ?_, ?_, ?_, ?_, ?_, ?_, ?_, ?_, ?_, ?_⟩
              · unfold RunT; rw [y11, y12]; exact hRξ
              · rw [y10, up_ne (by decide), up_oth (by decide), x10]; exact e3
              · rw [y10, up_ne (by decide), up_oth (by decide), x10]; exact e4
              · rw [y10, up_ne (by decide), up_oth (by decide), x10]; exact e5
              · rw [y10, up_ne (by decide), up_self]
              · rw [h2, len_app1]; omega
              · intro k hk
                have hk' := hRw k hk
                rw [len_app1] at hk
                have g4 : ∀ i : Int, 0 ≤ i → i < 4 → η (15 + 1) (4 * (k : Int) + i) = ξ (13 + 1) (4 * (k : Int) + i) := fun i i0 i1 => by
                  have := h4 (4 * (k : Int) + i) (by omega) (by omega)
                  rw [show 4 * (0 : Int) + (4 * (k : Int) + i) = 4 * (k : Int) + i by omega] at this
                  exact this
                rw [g4 0 (by decide) (by decide), g4 1 (by decide) (by decide), g4 2 (by decide) (by decide), g4 3 (by decide) (by decide)]
                exact hk'
              · rw [y13, x2]; omega
              · exact RwT_keep (fun j _ _ => by rw [y14]) (RwT_pre hwk hRw)
              · refine Opt_cong (fun m => ⟨fun h => ?_, fun h => ?_⟩) (Opt_new e11 (hwk1 g hTg.symm) (by simp) (by omega) hbt)
                · rcases h with (h | ⟨f, m', h1, h2, h3⟩) | h
                  · exact Or.inl h
                  · exact Or.inr ⟨f, m', h1, by omega, h3⟩
                  · exact Or.inr ⟨c, [], h, by omega, SX_cons.mpr ⟨hstep, Or.inl ⟨hTg, rfl⟩⟩⟩
                · rcases h with h | ⟨f, m', h1, h2, h3⟩
                  · exact Or.inl (Or.inl h)
                  · by_cases ef : f = c
                    · rw [ef] at h1 h3
                      rcases (SX_cons.mp h3).2 with h4' | h4'
                      · rw [h4'.2] at h1; exact Or.inr h1
                      · exact absurd hTg h4'.1
                    · exact Or.inl (Or.inr ⟨f, m', h1, by omega, h3⟩)
            refine ⟨fun hTg => ⟨fun hb => better hTg (Or.inl hb), fun hb => ⟨by unfold inR; omega, fun hl' => ⟨by unfold inR; omega, ?_⟩, fun hl' => better hTg (Or.inr ⟨by omega, by rw [len_app1]; omega⟩)⟩⟩, fun hTg => ⟨hco, by unfold inR; omega, hco, ?_⟩⟩
            · -- it is no better
              refine ihj (c + 1) ξ B L (by omega) (by omega) hF' ⟨hNξ, hRξ, by rw [x10]; exact e3, by rw [x10]; exact e4, by rw [x10]; exact e5, by rw [x10]; exact e6, by rw [x15]; exact e7, RwT_keep (fun j _ _ => by rw [x16]) e8, by rw [x2]; omega, RwT_pre hwk hRw, ?_⟩
              refine Opt_cong (fun m => ⟨fun h => ?_, fun h => ?_⟩) (Opt_old e11 (hwk1 g hTg.symm) (by omega) hb (by rw [len_app1]; omega) (fun l h hlen => ?_))
              · rcases h with (h | ⟨f, m', h1, h2, h3⟩) | h
                · exact Or.inl h
                · exact Or.inr ⟨f, m', h1, by omega, h3⟩
                · exact Or.inr ⟨c, [], h, by omega, SX_cons.mpr ⟨hstep, Or.inl ⟨hTg, rfl⟩⟩⟩
              · rcases h with h | ⟨f, m', h1, h2, h3⟩
                · exact Or.inl (Or.inl h)
                · by_cases ef : f = c
                  · rw [ef] at h1 h3
                    rcases (SX_cons.mp h3).2 with h4' | h4'
                    · rw [h4'.2] at h1; exact Or.inr h1
                    · exact absurd hTg h4'.1
                  · exact Or.inl (Or.inr ⟨f, m', h1, by omega, h3⟩)
              · rcases h with h | ⟨f, m', h1, h2, h3⟩
                · exact hX l [c] h (by simp) hlen
                · rw [h1]
                  exact lexB_pre pre (Or.inl h2)
            · -- on from there
              have hat' : 0 ≤ r + tkD of w c + cf of c 5 ∧ r + tkD of w c + cf of c 5 ≤ 108 := by omega
              rw [show ((pre.length : Int) + 1) = (((pre ++ [c]).length : Nat) : Int) by rw [len_app1]; omega]
              refine ih (pre ++ [c]) (cf of c 1) (r + tkD of w c + cf of c 5) (iOr sn (iShl 1 (cf of c 1))) B L (fun u => S u ∨ u = Tc of c) _ ξ _ (by rw [len_app1]; omega) (hwk1 _ rfl) hat' (iOr_st hsn (shl_st hT8)) (fun u u0 u1 => ?_) (fun l m h hne hlen => ?_) ⟨hNξ, hRξ, by rw [x10]; exact e3, by rw [x10]; exact e4, by rw [x10]; exact e5, by rw [x10]; exact e6, by rw [x15]; exact e7, RwT_keep (fun j _ _ => by rw [x16]) e8, by rw [x2, len_app1]; omega, hRw, e11⟩ (fun η B' L' hFη hη => ⟨by unfold inR; omega, ?_⟩)
              · rw [ms_or hsn (shl_st hT8) ⟨u0, u1⟩, ms_shl hT8 ⟨u0, u1⟩, hS u u0 u1]
                exact Iff.rfl
              · rw [List.append_assoc] at hlen ⊢
                rcases h with h | ⟨f, m', h1, h2, h3⟩
                · exact hX l _ h (by simp) hlen
                · rw [h1]
                  exact lexB_pre pre (Or.inl h2)
              · obtain ⟨g1, g2, g3, g4, g5, g6, g7, g8, g9, g10, g11⟩ := hη
                refine ihj (c + 1) η B' L' (by omega) (by omega) (hF'.tr hFη) ⟨g1, g2, g3, g4, g5, g6, g7, g8, by rw [len_app1] at g9; omega, RwT_pre hwk g10, Opt_cong (fun m => ⟨fun h => ?_, fun h => ?_⟩) g11⟩
                · rcases h with (h | ⟨f, m', h1, h2, h3⟩) | ⟨m', h1, h2⟩
                  · exact Or.inl h
                  · exact Or.inr ⟨f, m', h1, by omega, h3⟩
                  · rw [List.append_assoc] at h1
                    refine Or.inr ⟨c, m', h1, by omega, SX_cons.mpr ⟨hstep, Or.inr ⟨hTg, ?_⟩⟩⟩
                    rw [hEE]
                    exact h2
                · rcases h with h | ⟨f, m', h1, h2, h3⟩
                  · exact Or.inl (Or.inl h)
                  · by_cases ef : f = c
                    · rw [ef] at h1 h3
                      rcases (SX_cons.mp h3).2 with h4' | h4'
                      · exact absurd h4'.1 hTg
                      · refine Or.inr ⟨m', by rw [List.append_assoc]; exact h1, ?_⟩
                        rw [hEE] at h4'
                        exact h4'.2
                    · exact Or.inl (Or.inr ⟨f, m', h1, by omega, h3⟩)
          · -- too late
            refine ⟨by unfold inR; omega, ihj (c + 1) ν B L (by omega) (by omega) hF ⟨e1, e2, e3, e4, e5, e6, e7, e8, e9, e10, ?_⟩⟩
            refine Opt_cong (fun m => ⟨fun h => ?_, fun h => ?_⟩) (Opt_skip (Y := fun m => ∃ m', m = pre ++ (c :: m') ∧ SX cn (Fc of) (Tc of) (EE cn of s tk w out) g (d + 1) S node at' (c :: m')) e11 (fun m h => ?_))
            · rcases h with (h | ⟨f, m', h1, h2, h3⟩) | ⟨m', h1, h3⟩
              · exact Or.inl h
              · exact Or.inr ⟨f, m', h1, by omega, h3⟩
              · exact Or.inr ⟨c, m', h1, by omega, h3⟩
            · rcases h with h | ⟨f, m', h1, h2, h3⟩
              · exact Or.inl (Or.inl h)
              · by_cases ef : f = c
                · rw [ef] at h1 h3
                  exact Or.inr ⟨m', h1, h3⟩
                · exact Or.inl (Or.inr ⟨f, m', h1, by omega, h3⟩)
            · obtain ⟨m', h1, h3⟩ := h
              obtain ⟨-, -, -, a, ha⟩ := h3
              have hle := WK_le (EE_up hp hw) ha.2
              refine ⟨a, by rw [h1]; exact WK_cat hwk ha, by omega, ?_⟩
              -- all arrivals are early enough
              have : ∀ (l : List Int) {v t a : Int}, t ≤ 108 → WK cn (Fc of) (Tc of) (EE cn of s tk w out) l v t g a → a ≤ 108 := by
                intro l
                induction l with
                | nil => intro v t a ht h; rw [← h.2]; exact ht
                | cons f l ihl =>
                  intro v t a ht h
                  have := EE_lt (cn := cn) (out := out) (c := f) (t := t) (s := s) (tk := tk) hp hw
                  have h9 := h.1.2.2.2
                  exact ihl (by omega) h.2
              have := this m' (by omega) ha.2
              omega
    refine m_X6_explore hg St_10 ⟨fun _ => key cn.toNat 0 μ B L (by omega) (by decide) FrE.rf ?_, fun z => absurd (by omega) z⟩
    obtain ⟨e1, e2, e3, e4, e5, e6, e7, e8, e9, e10, e11⟩ := hE
    refine ⟨e1, e2, e3, e4, e5, e6, e7, e8, e9, e10, Opt_cong (fun m => ⟨Or.inl, fun z => ?_⟩) e11⟩
    rcases z with z | ⟨f, m', h1, h2, h3⟩
    · exact z
    · have := (SX_cons.mp h3).1.1
      omega
/-- nothing but the router has changed -/
def FrR (μ ν : Mem) : Prop := ∀ r, ¬ (10 ≤ r ∧ r ≤ 16) → ν r = μ r
theorem C_seek (hg : gx G = FX) {Q : Int → Nat → Mem → Prop} {nd cn v t0 g w out : Int} {of s : Int → Int} {tk : Int → Int → Prop} (hp : PW nd cn of) (hw : 1 ≤ w ∧ w ≤ 20) (hv : 0 ≤ v ∧ v < nd) (ht0 : 0 ≤ t0 ∧ t0 ≤ 108) (hvg : v ≠ g) (hN : NRel n μ 7 nd cn of) (hR : RunT μ cn (FreeP of s tk)) (h13 : 0 ≤ μ 13 2 ∧ μ 13 2 ≤ 6)
    (q0 : 9999 ≤ dpP cn (Fc of) (Tc of) (EE cn of s tk w out) v t0 5 g → ∀ ν, FrR μ ν → ν 11 = μ 11 → ν (11 + 1) = μ (11 + 1) → 0 ≤ ν 13 2 ∧ ν 13 2 ≤ 6 → Q (-9) n ν)
    (q1 : ∀ L B, BestW cn (Fc of) (Tc of) (EE cn of s tk w out) v t0 g L B → B = dpP cn (Fc of) (Tc of) (EE cn of s tk w out) v t0 5 g → ∀ ν, FrR μ ν → ν 11 = μ 11 → ν (11 + 1) = μ (11 + 1) → 0 ≤ ν 13 2 ∧ ν 13 2 ≤ 6 → ν 15 2 = (L.length : Int) → RwT of s tk w ν (15 + 1) L t0 → Q B n ν) : CI G Y_X6_seek [.inr 10, .inl v, .inl t0, .inl g, .inl w, .inl out] n μ Q := by
  have hnd := hp.2.1
  have hv8 : 0 ≤ v ∧ v < 8 := by omega
  refine m_X6_seek hg (T_cut0 hg St_15 ?_)
  have z10 : ∀ k, k ≠ 4 → (up (up (up (up (up μ 10 5 g) 10 6 w) 10 7 out) 15 2 0) 10 4 1000) 10 k = (up (up (up μ 10 5 g) 10 6 w) 10 7 out) 10 k := fun k hk => by rw [up_oth hk, up_ne (by decide)]
  have zr : ∀ r, r ≠ 10 → r ≠ 15 → (up (up (up (up (up μ 10 5 g) 10 6 w) 10 7 out) 15 2 0) 10 4 1000) r = μ r := fun r r1 r2 => by rw [up_ne r1, up_ne r2, up_ne r1, up_ne r1, up_ne r1]
  generalize hμ' : (up (up (up (up (up μ 10 5 g) 10 6 w) 10 7 out) 15 2 0) 10 4 1000) = μ' at z10 zr ⊢
  have hNν : NRel n μ' 7 nd cn of := NRel_keep (Nat.le_refl _) (zr 7 (by decide) (by decide)) (zr (7 + 2) (by decide) (by decide)) (fun p hp => zr p (by omega) (by omega)) hN
  have hz : ∀ u, ((fun u : Int => u = v) u ↔ u = v) := fun u => Iff.rfl
  have main := C_explore (G := G) (n := n) hg (out := out) (g := g) (v0 := v) (t0 := t0) (s := s) (tk := tk) hp hw ht0 5 [] v t0 (iShl 1 v) 1000 [] (fun u => u = v) (fun _ => False) μ' (fun n5 μ6 => (¬ (μ6 15 2 = 0) → Q (μ6 10 4) n5 μ6) ∧ (μ6 15 2 = 0 → Q (-9) n5 μ6)) rfl ⟨rfl, rfl⟩ ht0 (shl_st hv8) (fun u u0 u1 => ms_shl hv8 ⟨u0, u1⟩) (fun l m h => h.elim) ⟨hNν, ?_, ?_, ?_, ?_, ?_, ?_, ?_, ?_, ?_, Or.inl ⟨fun m h => h, rfl, rfl⟩⟩ (fun ν B' L' hF hE => ?_)
  · exact main
  · unfold RunT
    rw [zr 11 (by decide) (by decide), zr (11 + 1) (by decide) (by decide)]
    exact hR
  · rw [z10 5 (by decide), up_oth (by decide), up_oth (by decide), up_self]
  · rw [z10 6 (by decide), up_oth (by decide), up_self]
  · rw [z10 7 (by decide), up_self]
  · rw [← hμ', up_self]
  · rw [← hμ', up_ne (by decide), up_self]; rfl
  · intro k hk
    exact absurd hk (Nat.not_lt_zero k)
  · rw [zr 13 (by decide) (by decide)]
    exact h13
  · intro k hk
    exact absurd hk (Nat.not_lt_zero k)
  · obtain ⟨g1, g2, g3, g4, g5, g6, g7, g8, g9, g10, g11⟩ := hE
    have hFR : FrR μ ν := fun r hr => (hF.1 r (by omega) (by omega) (by omega) (by omega) (by omega)).trans (zr r (by omega) (by omega))
    have y11 : ν 11 = μ 11 := (hF.1 11 (by decide) (by decide) (by decide) (by decide) (by decide)).trans (zr 11 (by decide) (by decide))
    have y12 : ν (11 + 1) = μ (11 + 1) := (hF.1 (11 + 1) (by decide) (by decide) (by decide) (by decide) (by decide)).trans (zr (11 + 1) (by decide) (by decide))
    have hX : ∀ m, (False ∨ ∃ m', m = [] ++ m' ∧ SX cn (Fc of) (Tc of) (EE cn of s tk w out) g 5 (fun u => u = v) v t0 m') ↔ SX cn (Fc of) (Tc of) (EE cn of s tk w out) g 5 (fun u => u = v) v t0 m := by
      intro m
      constructor
      · rintro (h | ⟨m', h, h2⟩)
        · exact h.elim
        · rw [List.nil_append] at h
          rw [h]; exact h2
      · intro h
        exact Or.inr ⟨m, rfl, h⟩
    have g9' : 0 ≤ ν 13 2 ∧ ν 13 2 ≤ 6 := g9
    rcases Opt_best (EE_mono hp hw) (EE_up hp hw) (by omega) hvg hX g11 with ⟨h1, h2⟩ | ⟨h1, h2, h3⟩
    · rw [h1] at g7
      exact ⟨fun z => absurd g7 z, fun _ => q0 h2 ν hFR y11 y12 g9'⟩
    · rw [g7, g6]
      refine ⟨fun _ => q1 L' B' h2 h3 ν hFR y11 y12 g9' g7 g8, fun z => absurd (List.eq_nil_of_length_eq_zero (by omega)) h1⟩
end Explore
