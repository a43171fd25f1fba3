-- the model: a set of bundles planned
theorem giveAll_it {s : Int → Int} {x : Int} (m : Nat) {o w : Int} (hw : 0 ≤ w ∧ w < 20) (h : w ≠ 9) : it (giveAll s x m) o w = it s o w := by
  induction m with
  | zero => rfl
  | succ m ih =>
    unfold giveAll
    by_cases g : msB x m
    · rw [if_pos g]
      exact (it_set_ne (by omega) hw (Or.inr h)).trans ih
    · rw [if_neg g]
      exact ih
theorem giveAll_9 {s : Int → Int} {x : Int} (m : Nat) (o : Int) (ho : 0 ≤ o) : it (giveAll s x m) o 9 = @ite _ (o < m ∧ msB x o) (Classical.propDecidable _) 0 (it s o 9) := by
  induction m with
  | zero => rw [if_neg (by omega)]; rfl
  | succ m ih =>
    unfold giveAll
    by_cases g : msB x m
    · rw [if_pos g]
      by_cases e : o = m
      · subst e
        rw [if_pos ⟨by omega, g⟩]
        exact it_set_at (by omega)
      · rw [show it (giveP (giveAll s x m) m) o 9 = it (giveAll s x m) o 9 from it_set_ne (by omega) (by omega) (Or.inl e), ih]
        by_cases c : o < m ∧ msB x o
        · rw [if_pos c, if_pos ⟨by omega, c.2⟩]
        · rw [if_neg c, if_neg (fun d => c ⟨by omega, d.2⟩)]
    · rw [if_neg g, ih]
      by_cases c : o < m ∧ msB x o
      · rw [if_pos c, if_pos ⟨by omega, c.2⟩]
      · rw [if_neg c, if_neg (fun d => c ⟨?_, d.2⟩)]
        by_cases e : o = m
        · subst e; exact absurd d.2 g
        · omega
theorem planP_it {nd cn b : Int} {of s : Int → Int} (hp : PW nd cn of) (hs : SR nd cn of s) (hb : 0 ≤ b ∧ b < s 2) {o w : Int} (hw : 0 ≤ w ∧ w < 20) (h : o ≠ b ∨ (w < 9 ∧ w ≠ 6)) (h9 : w ≠ 9) : it (planP cn of s b).1 o w = it s o w := by
  have hg := SR_give hb.1 hs
  have e1 : it (giveP s b) o w = it s o w := it_set_ne (by omega) hw (Or.inr h9)
  have e2 : ∀ v, it (set1 (giveP s b) (3 + 20 * b + 6) v) o w = it s o w := fun v => (it_set_ne (by omega) hw (by omega)).trans e1
  have hb' : 0 ≤ b ∧ b < giveP s b 2 := by rw [show giveP s b 2 = s 2 from set1_ne (by omega)]; exact hb
  unfold planP
  split
  · exact e1
  split
  · exact e1
  split
  · exact e2 0
  rename_i hA
  split
  · exact e2 1
  · obtain ⟨h1, h2, h3, h4⟩ := best_ex hp hg hb' (by omega)
    exact (giveAll_it _ hw h9).trans ((getP_it h2 hw (by omega)).trans (e2 1))
theorem planP_po {nd cn b : Int} {of s : Int → Int} (hp : PW nd cn of) (hs : SR nd cn of s) (hb : 0 ≤ b ∧ b < s 2) {o : Int} (ho : 0 ≤ o ∧ o < 8) (h : msB (planP cn of s b).2 o) : o < s 2 ∧ o ≠ b ∧ it s o 3 < it s b 3 ∧ 0 < it s o 9 := by
  have hg := SR_give hb.1 hs
  have hm8 := hs.2.2.2.1
  have hb' : 0 ≤ b ∧ b < giveP s b 2 := by rw [show giveP s b 2 = s 2 from set1_ne (by omega)]; exact hb
  unfold planP at h
  split at h
  · exact absurd h (ms_0 ho)
  split at h
  · exact absurd h (ms_0 ho)
  split at h
  · exact absurd h (ms_0 ho)
  rename_i hA
  split at h
  · exact absurd h (ms_0 ho)
  · obtain ⟨h1, h2, h3, h4⟩ := best_ex hp hg hb' (by omega)
    rw [poSet_ms _ _ _ (by omega) ho] at h
    obtain ⟨k0, k, k1, k2, k3, e, e1, e2, e3⟩ := h
    rw [getP_it h2 (by omega) (by omega), getP_it h2 (by omega) (by omega), it_set_ne (by omega) (by omega) (by omega), it_set_ne (by omega) (by omega) (by omega), show it (giveP s b) o 3 = it s o 3 from it_set_ne (by omega) (by omega) (by omega), show it (giveP s b) b 3 = it s b 3 from it_set_ne (by omega) (by omega) (by omega)] at k3
    have hne : o ≠ b := fun q => by rw [q] at k3; omega
    rw [getP_it h2 (by omega) (Or.inl hne), it_set_ne (by omega) (by omega) (by omega), show it (giveP s b) o 9 = it s o 9 from it_set_ne (by omega) (by omega) (by omega)] at e2
    exact ⟨by omega, hne, k3, by omega⟩
/-- the one of a set with the highest priority, of several the least -/
def PickP (s : Int → Int) (x m b : Int) : Prop := 0 ≤ b ∧ b < m ∧ msB x b ∧ ∀ o, 0 ≤ o → o < m → msB x o → it s o 3 ≤ it s b 3 ∧ (it s o 3 = it s b 3 → b ≤ o)
theorem PickP_one {s : Int → Int} {x m b c : Int} (h : PickP s x m b) (h' : PickP s x m c) : b = c := by
  have h1 := h.2.2.2 c h'.1 h'.2.1 h'.2.2.1
  have h2 := h'.2.2.2 b h.1 h.2.1 h.2.2.1
  have h3 : it s c 3 = it s b 3 := by omega
  have h4 := h1.2 h3
  have h5 := h2.2 h3.symm
  omega
theorem PickP_ex {s : Int → Int} {x : Int} : ∀ (m : Nat), (∃ o, 0 ≤ o ∧ o < (m : Int) ∧ msB x o) → ∃ b, PickP s x m b := by
  intro m
  induction m with
  | zero => rintro ⟨o, h1, h2, h3⟩; omega
  | succ m ih =>
    intro hex
    by_cases h : ∃ o, 0 ≤ o ∧ o < (m : Int) ∧ msB x o
    · obtain ⟨b, hb⟩ := ih h
      by_cases c : msB x m ∧ it s b 3 < it s m 3
      · refine ⟨m, by omega, by omega, c.1, fun o h1 h2 h3 => ?_⟩
        by_cases e : o = m
        · rw [e]; exact ⟨by omega, fun _ => by omega⟩
        · have := hb.2.2.2 o h1 (by omega) h3
          exact ⟨by omega, fun q => by omega⟩
      · refine ⟨b, hb.1, by have := hb.2.1; omega, hb.2.2.1, fun o h1 h2 h3 => ?_⟩
        by_cases e : o = m
        · rw [e] at h3 ⊢
          have h4 : ¬ it s b 3 < it s m 3 := fun q => c ⟨h3, q⟩
          have := hb.2.1
          exact ⟨by omega, fun q => by omega⟩
        · exact hb.2.2.2 o h1 (by omega) h3
    · obtain ⟨o, h1, h2, h3⟩ := hex
      have e : o = m := by
        by_cases e : o = m
        · exact e
        · exact absurd ⟨o, h1, by omega, h3⟩ h
      refine ⟨m, by omega, by omega, e ▸ h3, fun u g1 g2 g3 => ?_⟩
      by_cases e : u = m
      · rw [e]; exact ⟨by omega, fun _ => by omega⟩
      · exact absurd ⟨u, g1, by omega, g3⟩ h
/-- planned: in so many rounds from these numbers and this set to those numbers -/
noncomputable def PA (cn : Int) (of : Int → Int) : Nat → (Int → Int) → Int → (Int → Int) → Prop
  | 0, s, x, s' => x = 0 ∧ s' = s
  | k + 1, s, x, s' => ∃ b, PickP s x (s 2) b ∧ PA cn of k (planP cn of s b).1 (iOr (iAnd x (iXor (iShl 1 b) (-1))) (planP cn of s b).2) s'
/-- how many below k are so -/
noncomputable def cntP (p : Int → Prop) : Nat → Nat
  | 0 => 0
  | k + 1 => cntP p k + @ite _ (p k) (Classical.propDecidable _) 1 0
theorem cntP_le (p : Int → Prop) (k : Nat) : cntP p k ≤ k := by
  induction k with
  | zero => exact Nat.le_refl _
  | succ k ih =>
    unfold cntP
    by_cases c : p k
    · rw [if_pos c]; omega
    · rw [if_neg c]; omega
theorem cntP_all {p : Int → Prop} (k : Nat) (h : cntP p k = k) : ∀ b : Int, 0 ≤ b → b < k → p b := by
  induction k with
  | zero => intro b h1 h2; omega
  | succ k ih =>
    intro b h1 h2
    have hle := cntP_le p k
    unfold cntP at h
    by_cases c : p k
    · rw [if_pos c] at h
      by_cases e : b = k
      · rw [e]; exact c
      · exact ih (by omega) b h1 (by omega)
    · rw [if_neg c] at h
      omega
theorem cntP_add {p : Int → Prop} {b : Int} (hb : ¬ p b) (h0 : 0 ≤ b) (k : Nat) : cntP (fun x => p x ∨ x = b) k = cntP p k + (if b < k then 1 else 0) := by
  induction k with
  | zero => rw [if_neg (by omega)]; rfl
  | succ k ih =>
    unfold cntP
    rw [ih]
    by_cases e : b = k
    · subst e
      rw [if_neg (by omega), if_pos (Or.inr rfl), if_neg hb, if_pos (by omega)]
    · by_cases c : p k
      · rw [if_pos c, if_pos (Or.inl c)]
        by_cases d : b < k
        · rw [if_pos d, if_pos (by omega)]
        · rw [if_neg d, if_neg (by omega)]
      · rw [if_neg c, if_neg (show ¬ (p k ∨ (k : Int) = b) from fun q => Or.elim q c (fun q => e q.symm))]
        by_cases d : b < k
        · rw [if_pos d, if_pos (by omega)]
        · rw [if_neg d, if_neg (by omega)]
theorem cntP_no {p : Int → Prop} (h : ∀ b, ¬ p b) (k : Nat) : cntP p k = 0 := by
  induction k with
  | zero => rfl
  | succ k ih =>
    unfold cntP
    rw [if_neg (h _), ih]
theorem next_st {nd cn b x : Int} {of s : Int → Int} (hp : PW nd cn of) (hs : SR nd cn of s) (hb : 0 ≤ b ∧ b < s 2) (hx : st8 x) : st8 (iOr (iAnd x (iXor (iShl 1 b) (-1))) (planP cn of s b).2) :=
  iOr_st (st_and hx ⟨hb.1, by have := hs.2.2.2.1; omega⟩) (planP_ok hp hs hb).2.2
theorem next_ms {nd cn b x j : Int} {of s : Int → Int} (hp : PW nd cn of) (hs : SR nd cn of s) (hb : 0 ≤ b ∧ b < s 2) (hx : st8 x) (hj : 0 ≤ j ∧ j < 8) : msB (iOr (iAnd x (iXor (iShl 1 b) (-1))) (planP cn of s b).2) j ↔ (msB x j ∧ j ≠ b) ∨ msB (planP cn of s b).2 j := by
  have := hs.2.2.2.1
  rw [ms_or (st_and hx ⟨hb.1, by omega⟩) (planP_ok hp hs hb).2.2 hj, ms_and hx ⟨hb.1, by omega⟩ hj]
theorem PA_ex {nd cn : Int} {of : Int → Int} (hp : PW nd cn of) : ∀ (d : Nat) (s : Int → Int) (x : Int) (D : Int → Prop), SR nd cn of s → st8 x → (∀ j, 0 ≤ j → j < 8 → msB x j → j < s 2) → (∀ j, D j → 0 ≤ j ∧ j < 8 ∧ ¬ msB x j) → (∀ j o, D j → 0 ≤ o → o < 8 → msB x o → it s o 3 ≤ it s j 3) → cntP D 8 + d = 8 → ∃ r s', r ≤ d ∧ PA cn of r s x s' := by
  intro d
  induction d with
  | zero =>
    intro s x D hs hx h1 h2 h3 h4
    refine ⟨0, s, by omega, st_ext0 hx (fun j j0 j8 hj => ?_), rfl⟩
    exact (h2 j (cntP_all 8 (by omega) j j0 (by omega))).2.2 hj
  | succ d ih =>
    intro s x D hs hx h1 h2 h3 h4
    by_cases e : x = 0
    · exact ⟨0, s, by omega, e, rfl⟩
    · have hex : ∃ o, 0 ≤ o ∧ o < ((s 2).toNat : Int) ∧ msB x o := by
        refine Classical.byContradiction (fun q => e (st_ext0 hx (fun j j0 j8 hj => q ⟨j, j0, ?_, hj⟩)))
        have := h1 j j0 j8 hj
        omega
      obtain ⟨b, hb⟩ := PickP_ex (s := s) (s 2).toNat hex
      have hm : ((s 2).toNat : Int) = s 2 := by have := hs.2.2.1; omega
      rw [hm] at hb
      have hbb : 0 ≤ b ∧ b < s 2 := ⟨hb.1, hb.2.1⟩
      have hm8 := hs.2.2.2.1
      have hpl := planP_ok hp hs hbb
      have e2 : (planP cn of s b).1 2 = s 2 := hpl.2.1 2 (by decide)
      have e3 : ∀ o, it (planP cn of s b).1 o 3 = it s o 3 := fun o => planP_it hp hs hbb (by omega) (by omega) (by omega)
      have hDb : ¬ D b := fun q => (h2 b q).2.2 hb.2.2.1
      have g1 : ∀ j, 0 ≤ j → j < 8 → msB (iOr (iAnd x (iXor (iShl 1 b) (-1))) (planP cn of s b).2) j → j < (planP cn of s b).1 2 := by
        intro j j0 j8 hj
        rw [e2]
        rcases (next_ms hp hs hbb hx ⟨j0, j8⟩).mp hj with q | q
        · exact h1 j j0 j8 q.1
        · exact (planP_po hp hs hbb ⟨j0, j8⟩ q).1
      have g2 : ∀ j, (D j ∨ j = b) → 0 ≤ j ∧ j < 8 ∧ ¬ msB (iOr (iAnd x (iXor (iShl 1 b) (-1))) (planP cn of s b).2) j := by
        intro j hj
        have j8 : 0 ≤ j ∧ j < 8 := by
          rcases hj with hj | hj
          · exact ⟨(h2 j hj).1, (h2 j hj).2.1⟩
          · omega
        refine ⟨j8.1, j8.2, fun hm => ?_⟩
        rcases (next_ms hp hs hbb hx j8).mp hm with q | q
        · rcases hj with hj | hj
          · exact (h2 j hj).2.2 q.1
          · exact q.2 hj
        · have h5 := planP_po hp hs hbb j8 q
          rcases hj with hj | hj
          · have := h3 j b hj hb.1 (by omega) hb.2.2.1
            omega
          · exact h5.2.1 hj
      have g3 : ∀ j o, (D j ∨ j = b) → 0 ≤ o → o < 8 → msB (iOr (iAnd x (iXor (iShl 1 b) (-1))) (planP cn of s b).2) o → it (planP cn of s b).1 o 3 ≤ it (planP cn of s b).1 j 3 := by
        intro j o hj o0 o8 ho
        rw [e3, e3]
        have h6 : it s o 3 ≤ it s b 3 := by
          rcases (next_ms hp hs hbb hx ⟨o0, o8⟩).mp ho with q | q
          · exact (hb.2.2.2 o o0 (h1 o o0 o8 q.1) q.1).1
          · have := planP_po hp hs hbb ⟨o0, o8⟩ q
            omega
        rcases hj with hj | hj
        · have := h3 j b hj hb.1 (by omega) hb.2.2.1
          omega
        · rw [hj]; exact h6
      obtain ⟨r, s', hr, hPA⟩ := ih _ _ (fun y => D y ∨ y = b) hpl.1 (next_st hp hs hbb hx) g1 g2 g3 (by rw [cntP_add hDb hb.1, if_pos (by omega)]; omega)
      exact ⟨r + 1, s', by omega, b, hb, hPA⟩
theorem PA_all {nd cn x : Int} {of s : Int → Int} (hp : PW nd cn of) (hs : SR nd cn of s) (hx : st8 x) (h : ∀ j, 0 ≤ j → j < 8 → msB x j → j < s 2) : ∃ r s', r ≤ 8 ∧ PA cn of r s x s' :=
  PA_ex hp 8 s x (fun _ => False) hs hx h (fun j q => q.elim) (fun j o q => q.elim) (by rw [cntP_no (fun _ q => q)])
theorem PA_ok {nd cn : Int} {of : Int → Int} (hp : PW nd cn of) : ∀ (r : Nat) {s s' : Int → Int} {x : Int}, SR nd cn of s → PA cn of r s x s' → SR nd cn of s' ∧ (∀ k, k < 3 → s' k = s k) ∧ ∀ o w, 0 ≤ w → w < 9 → w ≠ 6 → it s' o w = it s o w := by
  intro r
  induction r with
  | zero =>
    rintro s s' x hs ⟨-, rfl⟩
    exact ⟨hs, fun _ _ => rfl, fun _ _ _ _ _ => rfl⟩
  | succ r ih =>
    rintro s s' x hs ⟨b, hb, h⟩
    have hbb : 0 ≤ b ∧ b < s 2 := ⟨hb.1, hb.2.1⟩
    have hpl := planP_ok hp hs hbb
    have h2 := ih hpl.1 h
    exact ⟨h2.1, fun k hk => (h2.2.1 k hk).trans (hpl.2.1 k hk), fun o w w0 w9 w6 => (h2.2.2 o w w0 w9 w6).trans (planP_it hp hs hbb (by omega) (by omega) (by omega))⟩
section Picks
variable {G : GT} {n : Nat} {μ : Mem}
theorem S_plansAll (hg : gx G = FX) {Q : Nat → Mem → Prop} {nd cn x : Int} {r : Nat} {of s s' : Int → Int} (hp : PW nd cn of) (hs : SR nd cn of s) (hx : st8 x) (h : PA cn of r s x s') (e9 : μ 399 2 = cn) (e4 : μ 400 = of) (e2 : μ 402 = s)
    (q : ∀ ν, FrP μ ν → ν 402 = s' → Q n ν) : CV G Y_X11_plansAll [.inr 399, .inl x] n μ Q := by
  refine m_X11_plansAll hg ?_
  have key : ∀ (r : Nat) (ν : Mem) (s : Int → Int) (x : Int), SR nd cn of s → st8 x → PA cn of r s x s' → FrP μ ν → ν 402 = s → B_X11_plansAll_2 G Q n ν x := by
    intro r
    induction r with
    | zero =>
      rintro ν s x hs hx ⟨rfl, rfl⟩ hF h2
      exact b_X11_plansAll_2 hg ⟨fun _ => q ν hF h2, fun c => absurd rfl c⟩
    | succ r ih =>
      rintro ν s x hs hx ⟨b, hb, h⟩ hF h2
      have hm8 := hs.2.2.2.1
      have hbb : 0 ≤ b ∧ b < s 2 := ⟨hb.1, hb.2.1⟩
      have hpl := planP_ok hp hs hbb
      have v4 : ν 400 = of := (hF.1 400 (by decide) (by decide) (by decide) (by decide) (by decide) (by decide)).trans e4
      have v9 : ν 399 2 = cn := (hF.2 2 (by decide) (by decide)).trans e9
      have hx0 : x ≠ 0 := fun e => by rw [e] at hb; exact ms_0 ⟨hb.1, by omega⟩ hb.2.2.1
      -- the search for the best
      have scan : ∀ (d : Nat) (k v : Int), k + d = s 2 → 0 ≤ k → ((v = -9 ∧ ∀ o, 0 ≤ o → o < k → ¬ msB x o) ∨ PickP s x k v) → B_X11_plansAll_12 G Q n ν x v k := by
        intro d
        induction d with
        | zero =>
          intro k v hk h0 hv
          have ek : k = s 2 := by omega
          subst ek
          have ev : v = b := by
            rcases hv with hv | hv
            · exact absurd hb.2.2.1 (hv.2 b hb.1 hb.2.1)
            · exact PickP_one hv hb
          subst ev
          refine b_X11_plansAll_12 hg ⟨fun _ => ?_, fun c => absurd (by rw [h2]; omega) c⟩
          refine S_plans hg (nd := nd) (by rw [v9, v4]; exact hp) (by rw [v9, v4, h2]; exact hs) (by rw [h2]; exact hbb) (fun ξ hFx hξ => ?_)
          rw [v9, v4, h2] at hξ ⊢
          exact ih ξ _ _ hpl.1 (next_st hp hs hbb hx) h (hF.tr hFx) hξ
        | succ d ihd =>
          intro k v hk h0 hv
          refine b_X11_plansAll_12 hg ⟨fun c => absurd c (by rw [h2]; omega), fun _ => S_has hg (fun c => ⟨fun _ => ⟨by omega, ihd (k + 1) v (by omega) (by omega) ?_⟩, fun g => absurd rfl g⟩) (fun c => ⟨fun g => absurd g (by decide), fun _ => ⟨fun e => ?_, fun e => ?_⟩⟩)⟩
          · rcases hv with hv | hv
            · refine Or.inl ⟨hv.1, fun o o0 o1 ho => ?_⟩
              by_cases eo : o = k
              · rw [eo] at ho; exact c ho
              · exact hv.2 o o0 (by omega) ho
            · refine Or.inr ⟨hv.1, by have := hv.2.1; omega, hv.2.2.1, fun o o0 o1 ho => ?_⟩
              by_cases eo : o = k
              · rw [eo] at ho; exact absurd ho c
              · exact hv.2.2.2 o o0 (by omega) ho
          · have hv' : ∀ o, 0 ≤ o → o < k → ¬ msB x o := by
              rcases hv with hv | hv
              · exact hv.2
              · have := hv.1; omega
            refine b_X11_plansAll_54 hg ⟨by omega, ihd (k + 1) k (by omega) (by omega) (Or.inr ⟨h0, by omega, c, fun o o0 o1 ho => ?_⟩)⟩
            by_cases eo : o = k
            · rw [eo]; exact ⟨by omega, fun _ => by omega⟩
            · exact absurd ho (hv' o o0 (by omega))
          · have hv' : PickP s x k v := by
              rcases hv with hv | hv
              · exact absurd hv.1 e
              · exact hv
            have hv0 := hv'.1
            have hvk := hv'.2.1
            refine S_its hg (by omega) (S_its hg (by omega) ?_)
            rw [h2]
            refine ⟨fun c2 => ⟨by omega, ihd (k + 1) v (by omega) (by omega) (Or.inr ⟨hv0, by omega, hv'.2.2.1, fun o o0 o1 ho => ?_⟩)⟩, fun c2 => b_X11_plansAll_54 hg ⟨by omega, ihd (k + 1) k (by omega) (by omega) (Or.inr ⟨h0, by omega, c, fun o o0 o1 ho => ?_⟩)⟩⟩
            · by_cases eo : o = k
              · rw [eo]; exact ⟨c2, fun _ => by omega⟩
              · exact hv'.2.2.2 o o0 (by omega) ho
            · by_cases eo : o = k
              · rw [eo]; exact ⟨by omega, fun _ => by omega⟩
              · have := hv'.2.2.2 o o0 (by omega) ho
                exact ⟨by omega, fun q => by omega⟩
      refine b_X11_plansAll_2 hg ⟨fun c => absurd c hx0, fun _ => scan (s 2).toNat 0 (-9) (by have := hs.2.2.1; omega) (by omega) (Or.inl ⟨rfl, fun o o0 o1 => by omega⟩)⟩
  exact key r μ s x hs hx h FrP.rf e2
end Picks
