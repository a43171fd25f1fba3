-- the model: what is never touched; where planning ends is one
def OutS (s s' : Int → Int) : Prop := ∀ j, ¬ (0 ≤ j ∧ j < 163) → s' j = s j
theorem OutS.rf {s : Int → Int} : OutS s s := fun _ _ => rfl
theorem OutS.tr {s t u : Int → Int} (h : OutS s t) (h2 : OutS t u) : OutS s u := fun j hj => (h2 j hj).trans (h j hj)
theorem OutS.set {s t : Int → Int} {b w v : Int} (h : OutS s t) (hb : 0 ≤ b ∧ b < 8) (hw : 0 ≤ w ∧ w < 20) : OutS s (set1 t (3 + 20 * b + w) v) := fun j hj => (set1_ne (by omega)).trans (h j hj)
theorem OutS.set0 {s t : Int → Int} {k v : Int} (h : OutS s t) (hk : 0 ≤ k ∧ k < 3) : OutS s (set1 t k v) := fun j hj => (set1_ne (by omega)).trans (h j hj)
theorem OutS_giveAll {s : Int → Int} {x : Int} (m : Nat) (hm : m ≤ 8) : OutS s (giveAll s x m) := by
  induction m with
  | zero => exact OutS.rf
  | succ m ih =>
    unfold giveAll
    by_cases g : msB x m
    · rw [if_pos g]
      exact (ih (by omega)).set (w := 9) (by omega) (by omega)
    · rw [if_neg g]
      exact ih (by omega)
theorem OutS_wrH {s : Int → Int} {b : Int} {l bs : List Int} (hb : 0 ≤ b ∧ b < 8) (k : Nat) (hk : k ≤ 5) : OutS s (wrH s b l bs k) := by
  induction k with
  | zero => exact OutS.rf
  | succ k ih => exact ((ih (by omega)).set hb (by omega)).set hb (by omega)
theorem planP_out {nd cn b : Int} {of s : Int → Int} (hp : PW nd cn of) (hs : SR nd cn of s) (hb : 0 ≤ b ∧ b < s 2) : OutS s (planP cn of s b).1 := by
  have hm8 := hs.2.2.2.1
  have hg := SR_give hb.1 hs
  have hb' : 0 ≤ b ∧ b < giveP s b 2 := by rw [show giveP s b 2 = s 2 from set1_ne (by omega)]; exact hb
  have o1 : OutS s (giveP s b) := OutS.rf.set (w := 9) (by omega) (by omega)
  have o2 : ∀ v, OutS s (set1 (giveP s b) (3 + 20 * b + 6) v) := fun v => o1.set (by omega) (by omega)
  unfold planP
  split
  · exact o1
  split
  · exact o1
  split
  · exact o2 0
  rename_i hA
  split
  · exact o2 1
  · obtain ⟨h1, h2, h3, h4⟩ := best_ex hp hg hb' (by omega)
    exact (((o2 1).tr (OutS_wrH (by omega) _ h2)).set (w := 9) (by omega) (by omega)).tr (OutS_giveAll _ (by omega))
theorem PA_out {nd cn : Int} {of : Int → Int} (hp : PW nd cn of) : ∀ (r : Nat) {s s' : Int → Int} {x : Int}, SR nd cn of s → PA cn of r s x s' → OutS s s' := by
  intro r
  induction r with
  | zero =>
    rintro s s' x hs ⟨-, rfl⟩
    exact OutS.rf
  | succ r ih =>
    rintro s s' x hs ⟨b, hb, h⟩
    have hbb : 0 ≤ b ∧ b < s 2 := ⟨hb.1, hb.2.1⟩
    exact (planP_out hp hs hbb).tr (ih (planP_ok hp hs hbb).1 h)
theorem PA_det {nd cn : Int} {of : Int → Int} (hp : PW nd cn of) : ∀ (r r' : Nat) {s s' s'' : Int → Int} {x : Int}, SR nd cn of s → PA cn of r s x s' → PA cn of r' s x s'' → s' = s'' := by
  intro r
  induction r with
  | zero =>
    rintro r' s s' s'' x hs ⟨rfl, rfl⟩ h'
    cases r' with
    | zero => exact h'.2.symm
    | succ r' =>
      obtain ⟨b, hb, -⟩ := h'
      have := hs.2.2.2.1
      exact absurd hb.2.2.1 (ms_0 ⟨hb.1, by have := hb.2.1; omega⟩)
  | succ r ih =>
    rintro r' s s' s'' x hs ⟨b, hb, h⟩ h'
    cases r' with
    | zero =>
      have := hs.2.2.2.1
      rw [h'.1] at hb
      exact absurd hb.2.2.1 (ms_0 ⟨hb.1, by have := hb.2.1; omega⟩)
    | succ r' =>
      obtain ⟨b', hb', h'⟩ := h'
      have e := PickP_one hb hb'
      subst e
      exact ih r' (planP_ok hp hs ⟨hb.1, hb.2.1⟩).1 h h'
/-- what comes of planning a set -/
noncomputable def afterP (cn : Int) (of s : Int → Int) (x : Int) : Int → Int := @dite _ (∃ s' r, PA cn of r s x s') (Classical.propDecidable _) (fun h => h.choose) (fun _ => s)
theorem afterP_is {nd cn x : Int} {of s s' : Int → Int} {r : Nat} (hp : PW nd cn of) (hs : SR nd cn of s) (h : PA cn of r s x s') : afterP cn of s x = s' := by
  unfold afterP
  rw [dif_pos ⟨s', r, h⟩]
  obtain ⟨r', h'⟩ := (show ∃ s' r, PA cn of r s x s' from ⟨s', r, h⟩).choose_spec
  exact PA_det hp r' r hs h' h
theorem lossX_st {of s : Int → Int} {c : Int} (hm : s 2 ≤ 8) : st8 (lossX of s c) := setP_st _ (by omega)
theorem lossX_lt {of s : Int → Int} {c : Int} (hm : 0 ≤ s 2 ∧ s 2 ≤ 8) (j : Int) (j0 : 0 ≤ j) (j8 : j < 8) (h : msB (lossX of s c) j) : j < lossP of s c 2 := by
  have := (setP_ms (by omega) ⟨j0, j8⟩).mp h
  rw [show lossP of s c 2 = s 2 from (loseS_lo _ (by decide)).trans (set1_ne (by decide))]
  omega
theorem loss_PA {nd cn c : Int} {of s : Int → Int} (hp : PW nd cn of) (hs : SR nd cn of s) : ∃ r s', r ≤ 8 ∧ PA cn of r (lossP of s c) (lossX of s c) s' :=
  PA_all hp (loseS_SR _ (SR_set1 hs)) (lossX_st hs.2.2.2.1) (lossX_lt ⟨hs.2.2.1, hs.2.2.2.1⟩)
theorem find_PA {nd cn c : Int} {of s : Int → Int} (hp : PW nd cn of) (hs : SR nd cn of s) : ∃ r s', r ≤ 8 ∧ PA cn of r (findP s c) (findX of s c) s' := by
  have h8 := hs.2.2.2.1
  have h0 := hs.2.2.1
  refine PA_all hp (SR_set1 hs) (setP_st _ (by omega)) (fun j j0 j8 h => ?_)
  have := (setP_ms (by omega) ⟨j0, j8⟩).mp h
  rw [show findP s c 2 = s 2 from set1_ne (by decide)]
  omega
/-- how many wait when a contact is lost -/
noncomputable def lossN (cn : Int) (of s : Int → Int) (c : Int) : Int := countP of (afterP cn of (lossP of s c) (lossX of s c)) 0 (s 2).toNat
/-- the worst of the first contacts, and how many wait then -/
noncomputable def worstP (cn : Int) (of s : Int → Int) : Nat → Int × Int
  | 0 => (-9, -1)
  | k + 1 => @ite _ (¬ msB (s 1) k ∧ (worstP cn of s k).2 < lossN cn of s k) (Classical.propDecidable _) ((k : Int), lossN cn of s k) (worstP cn of s k)
