-- the class: the router looks which ticks are free
theorem Tb_11 : Tb 11 100 8 := ⟨St_11, Or.inr (Or.inl ⟨rfl, rfl, by decide +kernel⟩)⟩
theorem Tb_13 : Tb 13 4 6 := ⟨St_13, Or.inl ⟨rfl, rfl, by decide +kernel⟩⟩
theorem Tb_15 : Tb 15 4 6 := ⟨St_15, Or.inl ⟨rfl, rfl, by decide +kernel⟩⟩
theorem NRel_T {n : Nat} {μ ν : Mem} {t nd cn : Int} {of : Int → Int} (ht : t = 11 ∨ t = 13 ∨ t = 15) (h : ButT t μ ν) (hN : NRel n μ 7 nd cn of) : NRel n ν 7 nd cn of :=
  NRel_keep (Nat.le_refl _) (h.1 7 (by omega) (by omega)) (h.1 (7 + 2) (by omega) (by omega)) (fun p hp => h.1 p (by omega) (by omega)) hN
theorem SRel_keep {μ ν : Mem} {a x : Int} {of s : Int → Int} (hm8 : s 2 ≤ 8) (h : ∀ r, a ≤ r → r < a + 29 → ν r = μ r) (hS : SRel of s μ a x) : SRel of s ν a x := by
  obtain ⟨h1, h2, h3, h4⟩ := hS
  have ha := h a (by omega) (by omega)
  refine ⟨by rw [ha]; exact h1, by rw [ha]; exact h2, by rw [ha]; exact h3, fun b b0 b1 => ?_⟩
  have hb := h4 b b0 b1
  refine ⟨BRel_keep (fun r r0 r1 => h r (by omega) (by omega)) hb.1, fun hn hst => ?_⟩
  rw [h _ (by omega) (by omega)]
  exact hb.2 hn hst
theorem SRel_T {μ ν : Mem} {a x : Int} {of s : Int → Int} (o : St a 7 5) (hm8 : s 2 ≤ 8) (h : ButT 11 μ ν) (hS : SRel of s μ a x) : SRel of s ν a x := by
  have := St_S o
  exact SRel_keep hm8 (fun r r0 r1 => h.1 r (by omega) (by omega)) hS
/-- the table of ticks marks those that are so -/
def MarkT (ν : Mem) (m : Int) (P : Int → Int → Prop) : Prop := ν 11 2 = m ∧ ∀ c t, 0 ≤ c → c < m → 0 ≤ t → t < 100 → (ν (11 + 1) (100 * c + t) ≠ 0 ↔ P c t)
theorem MarkT_cong {ν : Mem} {m : Int} {P P' : Int → Int → Prop} (h : ∀ c t, 0 ≤ c → c < m → 0 ≤ t → t < 100 → (P c t ↔ P' c t)) (q : MarkT ν m P) : MarkT ν m P' :=
  ⟨q.1, fun c t c0 c1 t0 t1 => (q.2 c t c0 c1 t0 t1).trans (h c t c0 c1 t0 t1)⟩
/-- the table of ticks says how many follow one another -/
def RunT (ν : Mem) (m : Int) (P : Int → Int → Prop) : Prop := ν 11 2 = m ∧ ∀ c t need, 0 ≤ c → c < m → 0 ≤ t → t < 100 → 1 ≤ need → (need ≤ ν (11 + 1) (100 * c + t) ↔ ∀ i, t ≤ i → i < t + need → P c i)
/-- a row of a bundle takes a tick -/
def RTk (of s : Int → Int) (b i c t : Int) : Prop := c = rwC s b i ∧ rwB s b i ≤ t ∧ t < rwB s b i + tkD of (it s b 0) (rwC s b i)
section Runs
variable {G : GT} {n : Nat} {μ : Mem}
theorem C_openWindows (hg : gx G = FX) {Q : Nat → Mem → Prop} {nd cn a x : Int} {of s : Int → Int} (o : St a 7 5) (hp : PW nd cn of) (hN : NRel n μ 7 nd cn of) (hm8 : s 2 ≤ 8) (h : SRel of s μ a x)
    (q : ∀ ν, ButT 11 μ ν → MarkT ν cn (fun c t => ¬ msB (s 1) c ∧ cf of c 2 ≤ t ∧ s 0 ≤ t ∧ t < cf of c 3) → Q n ν) : CV G Y_X6_openWindows [.inr 10, .inr a] n μ Q := by
  have hcn := hp.2.2.1
  have hc8 := hp.2.2.2.1
  have hSa := St_S o
  refine m_X6_openWindows hg o (T_cut0 hg St_11 ?_)
  have outer : ∀ (d : Nat) (c : Int) (ν : Mem), c + d = cn → 0 ≤ c → ButT 11 μ ν → MarkT ν c (fun c t => ¬ msB (s 1) c ∧ cf of c 2 ≤ t ∧ s 0 ≤ t ∧ t < cf of c 3) → B_X6_openWindows_10 G Q n ν a c := by
    intro d
    induction d with
    | zero =>
      intro c ν e c0 hF hM
      have ec : c = cn := by omega
      rw [ec] at hM ⊢
      have hNν := NRel_T (Or.inl rfl) hF hN
      exact b_X6_openWindows_10 hg o ⟨fun _ => q ν hF hM, fun z => absurd (by rw [hNν.2.1]; omega) z⟩
    | succ d ih =>
      intro c ν e c0 hF hM
      have hNν := NRel_T (Or.inl rfl) hF hN
      have hSν := SRel_T o hm8 hF h
      have hof := hp.2.2.2.2 c c0 (by omega)
      -- a row is filled
      have fill : ∀ (u : Int), (∀ t, 0 ≤ t → t < 100 → ((if cf of c 2 < s 0 then s 0 else cf of c 2) ≤ t ∧ t < u ↔ ¬ msB (s 1) c ∧ cf of c 2 ≤ t ∧ s 0 ≤ t ∧ t < cf of c 3)) → B_X6_openWindows_59 G Q n ν a c (if cf of c 2 < s 0 then s 0 else cf of c 2) u := by
        intro u hu
        refine b_X6_openWindows_59 hg o (T_addRow hg Tb_11 (by rw [hM.1]; exact c0) (by rw [hM.1]; omega) ?_)
        rw [hM.1]
        generalize (if cf of c 2 < s 0 then s 0 else cf of c 2) = w at hu ⊢
        have inner : ∀ (e : Nat) (t : Int) (ξ : Mem), t + e = 100 → 0 ≤ t → ButT 11 μ ξ → ξ 11 2 = c + 1 → (∀ c' t', 0 ≤ c' → c' < c → 0 ≤ t' → t' < 100 → (ξ (11 + 1) (100 * c' + t') ≠ 0 ↔ ¬ msB (s 1) c' ∧ cf of c' 2 ≤ t' ∧ s 0 ≤ t' ∧ t' < cf of c' 3)) → (∀ t', 0 ≤ t' → t' < t → (ξ (11 + 1) (100 * c + t') ≠ 0 ↔ w ≤ t' ∧ t' < u)) → B_X6_openWindows_73 G Q n ξ a c w u c t := by
          intro e
          induction e with
          | zero =>
            intro t ξ et t0 hFx hr h1 h2
            refine b_X6_openWindows_73 hg o ⟨fun _ => ⟨by unfold inR; omega, ih (c + 1) ξ (by omega) (by omega) hFx ⟨hr, fun c' t' c0' c1' t0' t1' => ?_⟩⟩, fun z => absurd (by omega) z⟩
            by_cases ec : c' = c
            · rw [ec]
              exact (h2 t' t0' (by omega)).trans (hu t' t0' t1')
            · exact h1 c' t' c0' (by omega) t0' t1'
          | succ e ihe =>
            intro t ξ et t0 hFx hr h1 h2
            have put : ∀ v : Int, (v ≠ 0 ↔ w ≤ t ∧ t < u) → B_X6_openWindows_107 G Q n ξ a c w u c t v t c 11 := by
              intro v hv
              refine b_X6_openWindows_107 hg o St_11 (T_put hg Tb_11 (by omega) (by omega) (by omega) ⟨by unfold inR; omega, ihe (t + 1) _ (by omega) (by omega) hFx.c (by rw [up_ne (by decide)]; exact hr) (fun c' t' c0' c1' t0' t1' => ?_) (fun t' t0' t1' => ?_)⟩)
              · rw [up_oth (by omega)]
                exact h1 c' t' c0' c1' t0' t1'
              · by_cases e' : t' = t
                · rw [e', up_self]
                  exact hv
                · rw [up_oth (by omega)]
                  exact h2 t' t0' (by omega)
            refine b_X6_openWindows_73 hg o ⟨fun z => absurd z (by omega), fun _ => ⟨fun z => b_X6_openWindows_106 hg o St_11 (put 0 ⟨fun y => absurd rfl y, fun y => by omega⟩), fun z => ⟨fun y => b_X6_openWindows_106 hg o St_11 (put 0 ⟨fun x => absurd rfl x, fun x => by omega⟩), fun y => put 1 ⟨fun _ => by omega, fun _ => by decide⟩⟩⟩⟩
        refine inner 100 0 _ (by decide) (by decide) hF.r (by rw [up_self]) (fun c' t' c0' c1' t0' t1' => ?_) (fun t' t0' t1' => by omega)
        rw [up_ne (by decide)]
        exact hM.2 c' t' c0' c1' t0' t1'
      refine b_X6_openWindows_10 hg o ⟨fun z => absurd z (by rw [hNν.2.1]; omega), fun _ => S_contactAt hg St_7 hNν hc8 ⟨c0, by omega⟩ (fun p hco hpk => ⟨hco, ?_⟩)⟩
      rw [hpk 2 (by decide) (by decide), hSν.2.1]
      refine C_isMissed hg o hSν (fun hm => ⟨fun _ => ⟨hco, ?_⟩, fun z => absurd rfl z⟩) (fun hm => ⟨fun z => absurd z (by decide), fun _ => ?_⟩)
      · rw [hpk 3 (by decide) (by decide)]
        refine fill _ (fun t t0 t1 => ⟨fun z => ⟨hm, ?_⟩, fun z => ?_⟩)
        · obtain ⟨z1, z2⟩ := z
          split at z1 <;> omega
        · refine ⟨?_, z.2.2.2⟩
          split <;> omega
      · refine fill _ (fun t t0 t1 => ⟨fun z => ?_, fun z => absurd hm z.1⟩)
        obtain ⟨z1, z2⟩ := z
        omega
  refine outer cn.toNat 0 _ (by omega) (by decide) ButT.rf.r ⟨by rw [up_self], fun c t c0 c1 => by omega⟩
theorem C_closeTicks (hg : gx G = FX) {Q : Nat → Mem → Prop} {nd cn b v i : Int} {of s : Int → Int} {P : Int → Int → Prop} (o : St v 0 9) (hp : PW nd cn of) (hB : BR nd cn of s b) (hb : BRel of s μ b v) (hi : 0 ≤ i ∧ i < rwN s b) (hM : MarkT μ cn P)
    (q : ∀ ν, ButT 11 μ ν → MarkT ν cn (fun c t => P c t ∧ ¬ RTk of s b i c t) → Q n ν) : CV G Y_X6_closeTicks [.inr 10, .inr (v + 1), .inl i] n μ Q := by
  have hc8 := hp.2.2.2.1
  have hro := row_ok hB hi.1 hi.2
  have hof := hp.2.2.2.2 _ hro.1 hro.2.1
  have htk := tkD_le hB.1 hB.2.1 hof.2.2.2.2.2.2.2.2.2.1 hof.2.2.2.2.2.2.2.2.2.2.1
  refine m_X6_closeTicks hg (st_0_1 o) (S_cell hg o hB hb (by decide) (fun _ _ => ?_) (fun w => absurd hi w))
  refine S_cell hg o hB hb (by decide) (fun _ _ => ?_) (fun w => absurd hi w)
  refine S_cell hg o hB hb (by decide) (fun _ _ => ?_) (fun w => absurd hi w)
  rw [if_pos rfl, if_neg (by decide), if_neg (by decide), if_pos rfl, if_neg (by decide), if_pos rfl]
  have key : ∀ (d : Nat) (u : Int) (ν : Mem), u + d = 100 → rwB s b i ≤ u → ButT 11 μ ν → MarkT ν cn (fun c t => P c t ∧ ¬ (RTk of s b i c t ∧ t < u)) → B_X6_closeTicks_23 G Q n ν (rwC s b i) (rwB s b i + tkD of (it s b 0) (rwC s b i)) u := by
    intro d
    induction d with
    | zero =>
      intro u ν e u0 hF hMν
      refine b_X6_closeTicks_23 hg ⟨fun _ => q ν hF (MarkT_cong (fun c t c0 c1 t0 t1 => ?_) hMν), fun z => absurd (by omega) z⟩
      constructor
      · rintro ⟨z1, z2⟩; exact ⟨z1, fun y => z2 ⟨y, by omega⟩⟩
      · rintro ⟨z1, z2⟩; exact ⟨z1, fun y => z2 y.1⟩
    | succ d ih =>
      intro u ν e u0 hF hMν
      refine b_X6_closeTicks_23 hg ⟨fun z => q ν hF (MarkT_cong (fun c t c0 c1 t0 t1 => ?_) hMν), fun z => T_put hg Tb_11 (by rw [hMν.1]; exact hc8) (by rw [hMν.1]; omega) (by omega) ⟨by unfold inR; omega, ih (u + 1) _ (by omega) (by omega) hF.c ⟨by rw [up_ne (by decide)]; exact hMν.1, fun c t c0 c1 t0 t1 => ?_⟩⟩⟩
      · constructor
        · rintro ⟨z1, z2⟩; exact ⟨z1, fun y => z2 ⟨y, by have := y.2.2; omega⟩⟩
        · rintro ⟨z1, z2⟩; exact ⟨z1, fun y => z2 y.1⟩
      · by_cases ee : c = rwC s b i ∧ t = u
        · rw [ee.1, ee.2, up_self]
          refine ⟨fun y => absurd rfl y, fun y => absurd ⟨⟨rfl, u0, by omega⟩, by omega⟩ y.2⟩
        · rw [up_oth (by omega)]
          refine (hMν.2 c t c0 c1 t0 t1).trans ⟨fun y => ⟨y.1, fun w => y.2 ⟨w.1, ?_⟩⟩, fun y => ⟨y.1, fun w => y.2 ⟨w.1, by omega⟩⟩⟩
          have := w.1.1
          omega
  refine key (100 - rwB s b i).toNat (rwB s b i) μ (by omega) (Int.le_refl _) ButT.rf (MarkT_cong (fun c t c0 c1 t0 t1 => ?_) hM)
  exact ⟨fun z => ⟨z, fun y => by have := y.1.2.1; omega⟩, fun z => z.1⟩
theorem C_countRuns (hg : gx G = FX) {Q : Nat → Mem → Prop} {cn : Int} {P : Int → Int → Prop} (hc : 0 ≤ cn ∧ cn ≤ 8) (hP : ∀ c t, 0 ≤ c → c < cn → 100 ≤ t → ¬ P c t) (hM : MarkT μ cn P)
    (q : ∀ ν, ButT 11 μ ν → RunT ν cn P → Q n ν) : CV G Y_X6_countRuns [.inr 10] n μ Q := by
  have outer : ∀ (d : Nat) (c : Int) (ν : Mem), c + d = cn → 0 ≤ c → ButT 11 μ ν → ν 11 2 = cn → (∀ c' t need, 0 ≤ c' → c' < c → 0 ≤ t → t < 100 → 1 ≤ need → (need ≤ ν (11 + 1) (100 * c' + t) ↔ ∀ i, t ≤ i → i < t + need → P c' i)) → (∀ c' t, c ≤ c' → c' < cn → 0 ≤ t → t < 100 → (ν (11 + 1) (100 * c' + t) ≠ 0 ↔ P c' t)) → B_X6_countRuns_2 G Q n ν c := by
    intro d
    induction d with
    | zero =>
      intro c ν e c0 hF hr h1 h2
      have ec : c = cn := by omega
      subst ec
      exact b_X6_countRuns_2 hg ⟨fun _ => q ν hF ⟨hr, h1⟩, fun z => absurd (by omega) z⟩
    | succ d ih =>
      intro c ν e c0 hF hr h1 h2
      refine b_X6_countRuns_2 hg ⟨fun z => absurd z (by omega), fun _ => ?_⟩
      have inner : ∀ (m : Nat) (t run : Int) (ξ : Mem), t + 1 = m → t ≤ 99 → 0 ≤ run → run ≤ 99 - t → (∀ need, 1 ≤ need → (need ≤ run ↔ ∀ i, t + 1 ≤ i → i < t + 1 + need → P c i)) → ButT 11 μ ξ → ξ 11 2 = cn → (∀ c' t' need, 0 ≤ c' → c' < c → 0 ≤ t' → t' < 100 → 1 ≤ need → (need ≤ ξ (11 + 1) (100 * c' + t') ↔ ∀ i, t' ≤ i → i < t' + need → P c' i)) → (∀ c' t', c < c' → c' < cn → 0 ≤ t' → t' < 100 → (ξ (11 + 1) (100 * c' + t') ≠ 0 ↔ P c' t')) → (∀ t', 0 ≤ t' → t' ≤ t → (ξ (11 + 1) (100 * c + t') ≠ 0 ↔ P c t')) → (∀ t' need, t < t' → t' < 100 → 1 ≤ need → (need ≤ ξ (11 + 1) (100 * c + t') ↔ ∀ i, t' ≤ i → i < t' + need → P c i)) → B_X6_countRuns_18 G Q n ξ c run t := by
        intro m
        induction m with
        | zero =>
          intro t run ξ et t99 r0 r1 hrun hFx xr x1 x2 x3 x4
          refine b_X6_countRuns_18 hg ⟨fun _ => ⟨by unfold inR; omega, ih (c + 1) ξ (by omega) (by omega) hFx xr (fun c' t' need c0' c1' t0' t1' n1 => ?_) (fun c' t' c0' c1' t0' t1' => x2 c' t' (by omega) c1' t0' t1')⟩, fun z => absurd (by omega) z⟩
          by_cases ec : c' = c
          · rw [ec]; exact x4 t' need (by omega) t1' n1
          · exact x1 c' t' need c0' (by omega) t0' t1' n1
        | succ m ihm =>
          intro t run ξ et t99 r0 r1 hrun hFx xr x1 x2 x3 x4
          have put : ∀ v : Int, 0 ≤ v → v ≤ 99 - t + 1 → (∀ need, 1 ≤ need → (need ≤ v ↔ ∀ i, t ≤ i → i < t + need → P c i)) → B_X6_countRuns_41 G Q n ξ c t v := by
            intro v v0 v1 hv
            refine b_X6_countRuns_41 hg (T_put hg Tb_11 (by omega) (by omega) (by omega) ⟨by unfold inR; omega, ihm (t + (-1)) v _ (by omega) (by omega) v0 (by omega) (fun need n1 => ?_) hFx.c (by rw [up_ne (by decide)]; exact xr) (fun c' t' need c0' c1' t0' t1' n1 => ?_) (fun c' t' c0' c1' t0' t1' => ?_) (fun t' t0' t1' => ?_) (fun t' need t0' t1' n1 => ?_)⟩)
            · rw [show t + -1 + 1 = t by omega]; exact hv need n1
            · rw [up_oth (by omega)]; exact x1 c' t' need c0' c1' t0' t1' n1
            · rw [up_oth (by omega)]; exact x2 c' t' c0' c1' t0' t1'
            · rw [up_oth (by omega)]; exact x3 t' t0' (by omega)
            · by_cases e' : t' = t
              · rw [e', up_self]; exact hv need n1
              · rw [up_oth (by omega)]; exact x4 t' need (by omega) t1' n1
          refine b_X6_countRuns_18 hg ⟨fun z => absurd z (by omega), fun _ => T_at hg Tb_11 (by omega) (fun _ _ _ _ => ⟨fun y => ⟨by unfold inR; omega, put _ (by omega) (by omega) (fun need n1 => ?_)⟩, fun y => put 0 (by omega) (by omega) (fun need n1 => ?_)⟩) (fun z => absurd ⟨by omega, by omega, by omega, by omega⟩ z)⟩
          · have ht := (x3 t (by omega) (Int.le_refl _)).mp y
            constructor
            · intro hn i i0 i1
              by_cases ei : i = t
              · rw [ei]; exact ht
              · exact (hrun (need - 1) (by omega)).mp (by omega) i (by omega) (by omega)
            · intro hn
              by_cases e1 : need = 1
              · omega
              · have := (hrun (need - 1) (by omega)).mpr (fun i i0 i1 => hn i (by omega) (by omega))
                omega
          · have ht : ¬ P c t := fun z => (x3 t (by omega) (Int.le_refl _)).mpr z y
            exact ⟨fun hn => by omega, fun hn => absurd (hn t (Int.le_refl _) (by omega)) ht⟩
      refine inner 100 99 0 ν (by decide) (by decide) (by decide) (by decide) (fun need n1 => ⟨fun z => by omega, fun z => absurd (z 100 (by decide) (by omega)) (hP c 100 c0 (by omega) (by decide))⟩) hF hr h1 (fun c' t' c0' => h2 c' t' (by omega)) (fun t' t0' t1' => h2 c t' (Int.le_refl _) (by omega) t0' (by omega)) (fun t' need t0' t1' => by omega)
  exact m_X6_countRuns hg (outer cn.toNat 0 μ (by omega) (by decide) ButT.rf hM.1 (fun c' t need c0 c1 => by omega) (fun c' t c0 c1 t0 t1 => hM.2 c' t (by omega) c1 t0 t1))
/-- which ticks a bundle's rows take -/
theorem rows_TK {nd cn b pr c t : Int} {of s : Int → Int} (hp : PW nd cn of) (hB : BR nd cn of s b) (hC : CH of s b) (hW : NW of s b) (b0 : 0 ≤ b) : (∃ i, 0 ≤ i ∧ i < rwN s b ∧ (rwB s b i < s 0 ∨ pr ≤ it s b 3) ∧ RTk of s b i c t) ↔ (0 ≤ c ∧ OnT of s b c t) ∨ (b ≠ -1 ∧ pr ≤ it s b 3 ∧ ∃ k, 0 ≤ k ∧ k < it s b 9 ∧ HpT of s b k c t) := by
  have hnow := hop_now hp hB hC hW
  have h713 := hB.2.2.2.2.2.2.2.2.2.2.2.2.1
  unfold RTk OnT HpT
  rcases onP_in s b with ⟨h7, eo⟩ | ⟨h7, eo⟩
  · constructor
    · rintro ⟨i, i0, i1, h1, h2⟩
      unfold rwN at i1
      have hr := row_off h7 i
      rw [hr.1, hr.2] at h2
      rw [hr.2] at h1
      have := hnow i i0 (by omega)
      refine Or.inr ⟨by omega, by omega, i, i0, by omega, h2.1.symm, h2.2.1, ?_⟩
      rw [h2.1]; exact h2.2.2
    · rintro (⟨c0, h, -⟩ | ⟨-, h1, k, k0, k1, h2, h3, h4⟩)
      · omega
      · have hr := row_off h7 k
        refine ⟨k, k0, by unfold rwN; omega, Or.inr h1, ?_⟩
        rw [hr.1, hr.2, h2]
        exact ⟨rfl, h3, h4⟩
  · have hr := row_on h7
    have hw := hW.1 h7
    constructor
    · rintro ⟨i, i0, i1, h1, h2⟩
      unfold rwN at i1
      by_cases ei : i = 0
      · rw [ei, hr.1, hr.2.1] at h2
        refine Or.inl ⟨by omega, h2.1.symm, h2.2.1, ?_⟩
        rw [h2.1]; exact h2.2.2
      · have hri := hr.2.2 i (by omega)
        rw [hri.1, hri.2] at h2
        rw [hri.2] at h1
        have := hnow (i - 1) (by omega) (by omega)
        refine Or.inr ⟨by omega, by omega, i - 1, by omega, by omega, h2.1.symm, h2.2.1, ?_⟩
        rw [h2.1]; exact h2.2.2
    · rintro (⟨c0, h2, h3, h4⟩ | ⟨-, h1, k, k0, k1, h2, h3, h4⟩)
      · refine ⟨0, by decide, by unfold rwN; have := hB.2.2.2.2.2.2.2.2.2.2.2.2.2.1; omega, Or.inl (by rw [hr.2.1]; exact hw.1), ?_⟩
        rw [hr.1, hr.2.1, h2]
        exact ⟨rfl, h3, h4⟩
      · have hrk := hr.2.2 (k + 1) (by omega)
        rw [show k + 1 - 1 = k by omega] at hrk
        refine ⟨k + 1, by omega, by unfold rwN; omega, Or.inr h1, ?_⟩
        rw [hrk.1, hrk.2, h2]
        exact ⟨rfl, h3, h4⟩
/-- what is free for a priority -/
def FreeP (of s : Int → Int) (tk : Int → Int → Prop) (c t : Int) : Prop := ¬ msB (s 1) c ∧ FR of s tk c t
theorem C_lookAt (hg : gx G = FX) {Q : Nat → Mem → Prop} {nd cn a x pr : Int} {of s : Int → Int} (o : St a 7 5) (hp : PW nd cn of) (hN : NRel n μ 7 nd cn of) (hs : SV nd cn of s) (h : SRel of s μ a x)
    (q : ∀ ν, ButT 11 μ ν → RunT ν cn (FreeP of s (tkS of s pr)) → Q n ν) : CV G Y_X6_lookAt [.inr 10, .inr a, .inl pr] n μ Q := by
  have hcn := hp.2.2.1
  have hc8 := hp.2.2.2.1
  have hm8 := hs.1.2.2.2.1
  have hm0 := hs.1.2.2.1
  have hSa := St_S o
  refine m_X6_lookAt hg o (C_openWindows hg o hp hN hm8 h (fun ν0 hF0 hM0 => ?_))
  have outer : ∀ (d : Nat) (b : Int) (ν : Mem), b + d = s 2 → 0 ≤ b → ButT 11 μ ν → MarkT ν cn (fun c t => (¬ msB (s 1) c ∧ cf of c 2 ≤ t ∧ s 0 ≤ t ∧ t < cf of c 3) ∧ ¬ TK of s (-1) pr b c t) → B_X6_lookAt_7 G Q n ν a pr b := by
    intro d
    induction d with
    | zero =>
      intro b ν e b0 hF hM
      have hSν := SRel_T o hm8 hF h
      have eb : b = s 2 := by omega
      rw [eb] at hM ⊢
      refine b_X6_lookAt_7 hg o ⟨fun _ => C_countRuns hg ⟨hcn, hc8⟩ (P := FreeP of s (tkS of s pr)) (fun c t c0 c1 ht hf => ?_) (MarkT_cong (fun c t c0 c1 t0 t1 => ?_) hM) (fun ξ hFx hR => q ξ (hF.tr hFx) hR), fun z => absurd (by rw [hSν.1]; omega) z⟩
      · have := hf.2.2.2.1
        have := hp.2.2.2.2 c c0 c1
        omega
      · unfold FreeP FR tkS
        constructor
        · rintro ⟨⟨z1, z2, z3, z4⟩, z5⟩; exact ⟨z1, z2, z3, z4, z5⟩
        · rintro ⟨z1, z2, z3, z4, z5⟩; exact ⟨⟨z1, z2, z3, z4⟩, z5⟩
    | succ d ih =>
      intro b ν e b0 hF hM
      have hSν := SRel_T o hm8 hF h
      have oB := St_SB o (b := b) b0 (by omega)
      have hB := hs.1.2.2.2.2 b b0 (by omega)
      have hv := hs.2.1 b b0 (by omega)
      have hrN := rwN_in hB
      have hStB := St_B oB
      refine b_X6_lookAt_7 hg o ⟨fun z => absurd z (by rw [hSν.1]; omega), fun _ => S_bundleAt hg o ⟨b0, by omega⟩ ⟨oB, ?_⟩⟩
      have inner : ∀ (m : Nat) (i : Int) (ξ : Mem), i + m = rwN s b → 0 ≤ i → ButT 11 μ ξ → MarkT ξ cn (fun c t => ((¬ msB (s 1) c ∧ cf of c 2 ≤ t ∧ s 0 ≤ t ∧ t < cf of c 3) ∧ ¬ TK of s (-1) pr b c t) ∧ ¬ ∃ j, 0 ≤ j ∧ j < i ∧ (rwB s b j < s 0 ∨ pr ≤ it s b 3) ∧ RTk of s b j c t) → B_X6_lookAt_25 G Q n ξ a pr b (a + 4 + 1 + 3 * b) i := by
        intro m
        induction m with
        | zero =>
          intro i ξ ei i0 hFx hMx
          have hSx := SRel_T o hm8 hFx h
          have hbx := (hSx.2.2.2 b b0 (by omega)).1
          refine b_X6_lookAt_25 hg o oB ⟨fun _ => ⟨by unfold inR; omega, ih (b + 1) ξ (by omega) (by omega) hFx (MarkT_cong (fun c t c0 c1 t0 t1 => ?_) hMx)⟩, fun z => absurd (by rw [hbx.2.2.2.2.2.2.1]; omega) z⟩
          have hT := rows_TK (pr := pr) (c := c) (t := t) hp hB hv.1 hv.2 b0
          have e1 : (∃ j, 0 ≤ j ∧ j < i ∧ (rwB s b j < s 0 ∨ pr ≤ it s b 3) ∧ RTk of s b j c t) ↔ (0 ≤ c ∧ OnT of s b c t) ∨ (b ≠ -1 ∧ pr ≤ it s b 3 ∧ ∃ k, 0 ≤ k ∧ k < it s b 9 ∧ HpT of s b k c t) := by
            rw [show i = rwN s b by omega]; exact hT
          rw [e1]
          unfold TK
          constructor
          · rintro ⟨⟨z1, z2⟩, z3⟩
            refine ⟨z1, ?_⟩
            rintro ⟨o', o0, o1, z4⟩
            by_cases eo : o' = b
            · rw [eo] at z4
              rcases z4 with z4 | z4
              · exact z3 (Or.inl ⟨c0, z4⟩)
              · exact z3 (Or.inr z4)
            · exact z2 ⟨o', o0, by omega, z4⟩
          · rintro ⟨z1, z2⟩
            refine ⟨⟨z1, ?_⟩, ?_⟩
            · rintro ⟨o', o0, o1, z4⟩; exact z2 ⟨o', o0, by omega, z4⟩
            · rintro (z4 | z4)
              · exact z2 ⟨b, b0, by omega, Or.inl z4.2⟩
              · exact z2 ⟨b, b0, by omega, Or.inr z4⟩
        | succ m ihm =>
          intro i ξ ei i0 hFx hMx
          have hSx := SRel_T o hm8 hFx h
          have hbx := (hSx.2.2.2 b b0 (by omega)).1
          -- its ticks are closed
          have close : (rwB s b i < s 0 ∨ pr ≤ it s b 3) → B_X6_lookAt_77 G Q n ξ a pr b (a + 4 + 1 + 3 * b) i := by
            intro hcl
            refine b_X6_lookAt_77 hg o oB (C_closeTicks hg oB hp hB hbx ⟨i0, by omega⟩ hMx (fun η hFe hMe => ⟨by unfold inR; omega, ihm (i + 1) η (by omega) (by omega) (hFx.tr hFe) (MarkT_cong (fun c t c0 c1 t0 t1 => ?_) hMe)⟩))
            constructor
            · rintro ⟨⟨z1, z2⟩, z3⟩
              refine ⟨z1, ?_⟩
              rintro ⟨j, j0, j1, z4⟩
              by_cases ej : j = i
              · rw [ej] at z4; exact z3 z4.2
              · exact z2 ⟨j, j0, by omega, z4⟩
            · rintro ⟨z1, z2⟩
              refine ⟨⟨z1, ?_⟩, fun z3 => z2 ⟨i, i0, by omega, hcl, z3⟩⟩
              rintro ⟨j, j0, j1, z4⟩
              exact z2 ⟨j, j0, by omega, z4⟩
          refine b_X6_lookAt_25 hg o oB ⟨fun z => absurd z (by rw [hbx.2.2.2.2.2.2.1]; omega), fun _ => S_cell hg oB hB hbx (by decide) (fun _ _ => ?_) (fun w => absurd ⟨i0, by omega⟩ w)⟩
          rw [if_neg (by decide), if_pos rfl, hSx.2.1]
          refine ⟨fun z => b_X6_lookAt_61 hg o oB ⟨fun y => absurd rfl y, fun _ => ⟨fun y => ⟨by unfold inR; omega, ihm (i + 1) ξ (by omega) (by omega) hFx (MarkT_cong (fun c t c0 c1 t0 t1 => ?_) hMx)⟩, fun y => close (Or.inr ?_)⟩⟩, fun z => b_X6_lookAt_61 hg o oB ⟨fun _ => close (Or.inl (by omega)), fun y => absurd y (by decide)⟩⟩
          · rw [hbx.2.2.2.2.1] at y
            constructor
            · rintro ⟨z1, z2⟩
              refine ⟨z1, ?_⟩
              rintro ⟨j, j0, j1, z3, z4⟩
              by_cases ej : j = i
              · rw [ej] at z3; omega
              · exact z2 ⟨j, j0, by omega, z3, z4⟩
            · rintro ⟨z1, z2⟩
              refine ⟨z1, ?_⟩
              rintro ⟨j, j0, j1, z4⟩
              exact z2 ⟨j, j0, by omega, z4⟩
          · rw [hbx.2.2.2.2.1] at y
            omega
      refine inner (rwN s b).toNat 0 ν (by omega) (by decide) hF (MarkT_cong (fun c t c0 c1 t0 t1 => ⟨fun z => ⟨z, ?_⟩, fun z => z.1⟩) hM)
      rintro ⟨j, j0, j1, -⟩
      omega
  refine outer (s 2).toNat 0 ν0 (by omega) (by decide) hF0 (MarkT_cong (fun c t c0 c1 t0 t1 => ⟨fun z => ⟨z, ?_⟩, fun z => z.1⟩) hM0)
  rintro ⟨o', o0, o1, -⟩
  omega
theorem C_firstBegin (hg : gx G = FX) {Q : Int → Nat → Mem → Prop} {nd cn c at' need : Int} {of s : Int → Int} {tk : Int → Int → Prop} (hp : PW nd cn of) (hc : 0 ≤ c ∧ c < cn) (hn : 1 ≤ need) (ha : 0 ≤ at' ∧ at' ≤ 200) (hR : RunT μ cn (FreeP of s tk))
    (q0 : msB (s 1) c ∨ fbP of s tk c need at' = none → Q (-9) n μ) (q1 : ∀ r, ¬ msB (s 1) c → fbP of s tk c need at' = some r → Q r n μ) : CI G Y_X6_firstBegin [.inr 10, .inl c, .inl at', .inl need] n μ Q := by
  have hof := hp.2.2.2.2 c hc.1 hc.2
  have hc8 := hp.2.2.2.1
  have key : ∀ (d : Nat) (t : Int), t + d = 201 → at' ≤ t → (∀ r, at' ≤ r → r < t → ¬ ∀ i, r ≤ i → i < r + need → FreeP of s tk c i) → B_X6_firstBegin_3 G Q n μ c need t := by
    intro d
    have none : ∀ t, 99 < t → (∀ r, at' ≤ r → r < t → ¬ ∀ i, r ≤ i → i < r + need → FreeP of s tk c i) → Q (-9) n μ := by
      intro t ht hno
      by_cases hm : msB (s 1) c
      · exact q0 (Or.inl hm)
      · refine q0 (Or.inr (firstP_isnone (fun i i0 i1 hok => hno i i0 (by omega) (fun j j0 j1 => ⟨hm, hok j j0 j1⟩))))
    induction d with
    | zero =>
      intro t e ht hno
      exact b_X6_firstBegin_3 hg ⟨fun z => none t z hno, fun z => absurd (by omega) z⟩
    | succ d ih =>
      intro t e ht hno
      refine b_X6_firstBegin_3 hg ⟨fun z => none t z hno, fun z => T_at hg Tb_11 (by rw [hR.1]; exact hc8) (fun _ _ _ _ => ?_) (fun w => absurd ⟨by omega, by rw [hR.1]; omega, by omega, by omega⟩ w)⟩
      have hr := hR.2 c t need hc.1 hc.2 (by omega) (by omega) hn
      refine ⟨fun y => ⟨by unfold inR; omega, ih (t + 1) (by omega) (by omega) (fun r r0 r1 => ?_)⟩, fun y => ?_⟩
      · by_cases er : r = t
        · rw [er]
          exact fun w => by have := hr.mpr w; omega
        · exact hno r r0 (by omega)
      · have hall := hr.mp (by omega)
        have h1 := hall t (Int.le_refl _) (by omega)
        have h2 := hall (t + need - 1) (by omega) (by omega)
        have h3 := h2.2.2.2.1
        exact q1 t h1.1 (firstP_is ht (by omega) (fun i i0 i1 => (hall i i0 i1).2) (fun r r0 r1 hok => hno r r0 r1 (fun j j0 j1 => ⟨h1.1, hok j j0 j1⟩)))
  exact m_X6_firstBegin hg (key (201 - at').toNat at' (by omega) (Int.le_refl _) (fun r r0 r1 => by omega))
end Runs
