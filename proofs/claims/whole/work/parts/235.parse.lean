-- the text: numbers, contacts, items, the whole
/-- a number from low to high but one: what it is, and where it ends; or where the fault is -/
noncomputable def numP (L : Int) (x : Int → Int) (lo hi ba p : Int) : Int ⊕ (Int × Int) :=
  if 1000 + lo ≤ tokP L x (skP L x p) ∧ tokP L x (skP L x p) ≤ 1000 + hi ∧ tokP L x (skP L x p) - 1000 ≠ ba then .inr (tokP L x (skP L x p) - 1000, nxtP L x (skP L x p)) else .inl (skP L x p)
theorem numP_ok {L lo hi ba p : Int} {x : Int → Int} {r : Int × Int} (h : numP L x lo hi ba p = .inr r) : lo ≤ r.1 ∧ r.1 ≤ hi ∧ r.1 ≠ ba ∧ tokP L x (skP L x p) = 1000 + r.1 ∧ r.2 = nxtP L x (skP L x p) := by
  unfold numP at h
  split at h
  · rename_i c
    cases h
    exact ⟨by show lo ≤ _ - 1000; omega, by show _ - 1000 ≤ hi; omega, c.2.2, by show _ = 1000 + (_ - 1000); omega, rfl⟩
  · cases h
theorem numP_no {L lo hi ba p q : Int} {x : Int → Int} (h : numP L x lo hi ba p = .inl q) : q = skP L x p ∧ ¬ (1000 + lo ≤ tokP L x (skP L x p) ∧ tokP L x (skP L x p) ≤ 1000 + hi ∧ tokP L x (skP L x p) - 1000 ≠ ba) := by
  unfold numP at h
  split at h
  · cases h
  · rename_i c
    cases h
    exact ⟨rfl, c⟩
theorem numP_pos {L lo hi ba p : Int} {x : Int → Int} {r : Int × Int} (hp : 0 ≤ p ∧ p ≤ L) (h : numP L x lo hi ba p = .inr r) (h0 : 0 ≤ lo) : p < r.2 ∧ r.2 ≤ L := by
  have h1 := numP_ok h
  have h2 := skP_ge (L := L) (x := x) p
  have h3 := h2.2.1 hp.2
  have h4 := nxtP_in (x := x) h3
  by_cases c : L ≤ skP L x p
  · have : tokP L x (skP L x p) = -1 := if_pos c
    omega
  · have := h4.2.2 (by omega)
    omega
noncomputable def semiP (L : Int) (x : Int → Int) (p : Int) : Int ⊕ Int := if skP L x p < L ∧ x (skP L x p) = 59 then .inr (skP L x p + 1) else .inl (skP L x p)
noncomputable def contactP (L : Int) (x : Int → Int) (nd p : Int) : Int ⊕ ((Int × Int × Int × Int × Int × Int) × Int) :=
  match numP L x 0 (nd - 1) (-1) p with
  | .inl q => .inl q
  | .inr f => match numP L x 0 (nd - 1) f.1 f.2 with
    | .inl q => .inl q
    | .inr t => match numP L x 0 98 (-1) t.2 with
      | .inl q => .inl q
      | .inr s => match numP L x (s.1 + 1) 99 (-1) s.2 with
        | .inl q => .inl q
        | .inr e => match numP L x 1 9 (-1) e.2 with
          | .inl q => .inl q
          | .inr r => match numP L x 0 9 (-1) r.2 with
            | .inl q => .inl q
            | .inr l => .inr ((f.1, t.1, s.1, e.1, r.1, l.1), l.2)
noncomputable def set6 (f : Int → Int) (i : Int) (l : Int × Int × Int × Int × Int × Int) : Int → Int := set1 (set1 (set1 (set1 (set1 (set1 f (i + 0) l.1) (i + 1) l.2.1) (i + 2) l.2.2.1) (i + 3) l.2.2.2.1) (i + 4) l.2.2.2.2.1) (i + 5) l.2.2.2.2.2
theorem set6_at {f : Int → Int} {i j : Int} {l : Int × Int × Int × Int × Int × Int} : set6 f i l j = if j = i then l.1 else if j = i + 1 then l.2.1 else if j = i + 2 then l.2.2.1 else if j = i + 3 then l.2.2.2.1 else if j = i + 4 then l.2.2.2.2.1 else if j = i + 5 then l.2.2.2.2.2 else f j := by
  unfold set6 set1
  rw [Int.add_zero]
  repeat' split
  all_goals first
    | rfl
    | (exfalso; omega)
noncomputable def itemP (L : Int) (x : Int → Int) (items nd cn : Int) (rd : Int → Int) (p : Int) : Int ⊕ (Int × Int × (Int → Int) × Int) :=
  if x p = 110 then (if items = 0 then (match numP L x 2 6 (-1) (p + 1) with
    | .inl q => .inl q
    | .inr v => .inr (v.1, cn, rd, v.2)) else .inl p)
  else if x p = 99 then (if cn < 8 then (match contactP L x nd (p + 1) with
    | .inl q => .inl q
    | .inr r => .inr (nd, cn + 1, set6 rd (6 * cn) r.1, r.2)) else .inl p)
  else .inl p
noncomputable def runP (L : Int) (x : Int → Int) : Nat → Int → Int → Int → (Int → Int) → Int → Int ⊕ (Int × Int × Int × (Int → Int))
  | 0, _, _, _, _, _ => .inl (-100)
  | k + 1, items, nd, cn, rd, p => if L ≤ p then .inr (items, nd, cn, rd) else match itemP L x items nd cn rd p with
    | .inl q => .inl q
    | .inr r => match semiP L x r.2.2.2 with
      | .inl q => .inl q
      | .inr p2 => runP L x k (items + 1) r.1 r.2.1 r.2.2.1 (skP L x p2)
/-- what plan() makes of a text -/
noncomputable def textP (L : Int) (x rd : Int → Int) : Int ⊕ (Int × Int × Int × (Int → Int)) := runP L x (L.toNat + 1) 0 2 0 rd (skP L x 0)
theorem semiP_pos {L p : Int} {x : Int → Int} {r : Int} (hp : p ≤ L) (h : semiP L x p = .inr r) : p < r ∧ r ≤ L ∧ skP L x p < L ∧ x (skP L x p) = 59 ∧ r = skP L x p + 1 := by
  unfold semiP at h
  have := skP_ge (L := L) (x := x) p
  split at h
  · rename_i c
    cases h
    exact ⟨by omega, by omega, c.1, c.2, rfl⟩
  · cases h
theorem contactP_inr {L nd p : Int} {x : Int → Int} {r : (Int × Int × Int × Int × Int × Int) × Int} (h : contactP L x nd p = .inr r) : ∃ f t s e g l, numP L x 0 (nd - 1) (-1) p = .inr f ∧ numP L x 0 (nd - 1) f.1 f.2 = .inr t ∧ numP L x 0 98 (-1) t.2 = .inr s ∧ numP L x (s.1 + 1) 99 (-1) s.2 = .inr e ∧ numP L x 1 9 (-1) e.2 = .inr g ∧ numP L x 0 9 (-1) g.2 = .inr l ∧ r = ((f.1, t.1, s.1, e.1, g.1, l.1), l.2) := by
  unfold contactP at h
  cases h1 : numP L x 0 (nd - 1) (-1) p with
  | inl q => rw [h1] at h; cases h
  | inr f =>
    rw [h1] at h
    simp only at h
    cases h2 : numP L x 0 (nd - 1) f.1 f.2 with
    | inl q => rw [h2] at h; cases h
    | inr t =>
      rw [h2] at h
      simp only at h
      cases h3 : numP L x 0 98 (-1) t.2 with
      | inl q => rw [h3] at h; cases h
      | inr s =>
        rw [h3] at h
        simp only at h
        cases h4 : numP L x (s.1 + 1) 99 (-1) s.2 with
        | inl q => rw [h4] at h; cases h
        | inr e =>
          rw [h4] at h
          simp only at h
          cases h5 : numP L x 1 9 (-1) e.2 with
          | inl q => rw [h5] at h; cases h
          | inr g =>
            rw [h5] at h
            simp only at h
            cases h6 : numP L x 0 9 (-1) g.2 with
            | inl q => rw [h6] at h; cases h
            | inr l =>
              rw [h6] at h
              cases h
              exact ⟨f, t, s, e, g, l, rfl, h2, h3, h4, h5, h6, rfl⟩
theorem contactP_pos {L nd p : Int} {x : Int → Int} {r : (Int × Int × Int × Int × Int × Int) × Int} (hp : 0 ≤ p ∧ p ≤ L) (h : contactP L x nd p = .inr r) : p < r.2 ∧ r.2 ≤ L := by
  obtain ⟨f, t, s, e, g, l, h1, h2, h3, h4, h5, h6, rfl⟩ := contactP_inr h
  have p1 := numP_pos hp h1 (by decide)
  have p2 := numP_pos ⟨by omega, by omega⟩ h2 (by decide)
  have p3 := numP_pos ⟨by omega, by omega⟩ h3 (by decide)
  have := numP_ok h3
  have p4 := numP_pos ⟨by omega, by omega⟩ h4 (by omega)
  have p5 := numP_pos ⟨by omega, by omega⟩ h5 (by decide)
  have p6 := numP_pos ⟨by omega, by omega⟩ h6 (by decide)
  exact ⟨by show p < l.2; omega, p6.2⟩
theorem itemP_inr {L items nd cn p : Int} {x rd : Int → Int} {r : Int × Int × (Int → Int) × Int} (h : itemP L x items nd cn rd p = .inr r) :
    (x p = 110 ∧ items = 0 ∧ ∃ v, numP L x 2 6 (-1) (p + 1) = .inr v ∧ r = (v.1, cn, rd, v.2)) ∨ (x p = 99 ∧ cn < 8 ∧ ∃ v, contactP L x nd (p + 1) = .inr v ∧ r = (nd, cn + 1, set6 rd (6 * cn) v.1, v.2)) := by
  unfold itemP at h
  by_cases c1 : x p = 110
  · rw [if_pos c1] at h
    by_cases c2 : items = 0
    · rw [if_pos c2] at h
      cases hn : numP L x 2 6 (-1) (p + 1) with
      | inl q => rw [hn] at h; cases h
      | inr v =>
        rw [hn] at h
        cases h
        exact Or.inl ⟨c1, c2, v, rfl, rfl⟩
    · rw [if_neg c2] at h; cases h
  · rw [if_neg c1] at h
    by_cases c2 : x p = 99
    · rw [if_pos c2] at h
      by_cases c3 : cn < 8
      · rw [if_pos c3] at h
        cases hn : contactP L x nd (p + 1) with
        | inl q => rw [hn] at h; cases h
        | inr v =>
          rw [hn] at h
          cases h
          exact Or.inr ⟨c2, c3, v, rfl, rfl⟩
      · rw [if_neg c3] at h; cases h
    · rw [if_neg c2] at h; cases h
theorem itemP_pos {L items nd cn p : Int} {x rd : Int → Int} {r : Int × Int × (Int → Int) × Int} (hp : 0 ≤ p ∧ p < L) (h : itemP L x items nd cn rd p = .inr r) : p < r.2.2.2 ∧ r.2.2.2 ≤ L := by
  rcases itemP_inr h with ⟨-, -, v, h1, rfl⟩ | ⟨-, -, v, h1, rfl⟩
  · have := numP_pos ⟨by omega, by omega⟩ h1 (by decide)
    exact ⟨by show p < v.2; omega, this.2⟩
  · have := contactP_pos ⟨by omega, by omega⟩ h1
    exact ⟨by show p < v.2; omega, this.2⟩
theorem contactP_PW {L nd cn p : Int} {x rd : Int → Int} {v : (Int × Int × Int × Int × Int × Int) × Int} (hp : PW nd cn rd) (hc : cn < 8) (h : contactP L x nd p = .inr v) : PW nd (cn + 1) (set6 rd (6 * cn) v.1) := by
  obtain ⟨f, t, s, e, g, l, h1, h2, h3, h4, h5, h6, rfl⟩ := contactP_inr h
  have k1 := numP_ok h1
  have k2 := numP_ok h2
  have k3 := numP_ok h3
  have k4 := numP_ok h4
  have k5 := numP_ok h5
  have k6 := numP_ok h6
  obtain ⟨a1, a2, a3, a4, a5⟩ := hp
  refine ⟨a1, a2, by omega, by omega, fun c c0 c1 => ?_⟩
  unfold cf
  by_cases ec : c = cn
  · subst ec
    rw [set6_at, set6_at, set6_at, set6_at, set6_at, set6_at, if_pos (by omega), if_neg (by omega), if_pos (by omega), if_neg (by omega), if_neg (by omega), if_pos (by omega), if_neg (by omega), if_neg (by omega), if_neg (by omega), if_pos (by omega), if_neg (by omega), if_neg (by omega), if_neg (by omega), if_neg (by omega), if_pos (by omega), if_neg (by omega), if_neg (by omega), if_neg (by omega), if_neg (by omega), if_neg (by omega), if_pos (by omega)]
    show 0 ≤ f.1 ∧ f.1 < nd ∧ 0 ≤ t.1 ∧ t.1 < nd ∧ f.1 ≠ t.1 ∧ 0 ≤ s.1 ∧ s.1 ≤ 98 ∧ s.1 < e.1 ∧ e.1 ≤ 99 ∧ 1 ≤ g.1 ∧ g.1 ≤ 9 ∧ 0 ≤ l.1 ∧ l.1 ≤ 9
    omega
  · have e : ∀ k, 0 ≤ k → k < 6 → set6 rd (6 * cn) (f.1, t.1, s.1, e.1, g.1, l.1) (6 * c + k) = rd (6 * c + k) := fun k k0 k1 => by
      rw [set6_at, if_neg (by omega), if_neg (by omega), if_neg (by omega), if_neg (by omega), if_neg (by omega), if_neg (by omega)]
    rw [e 0 (by decide) (by decide), e 1 (by decide) (by decide), e 2 (by decide) (by decide), e 3 (by decide) (by decide), e 4 (by decide) (by decide), e 5 (by decide) (by decide)]
    exact a5 c c0 (by omega)
theorem itemP_PW {L items nd cn p : Int} {x rd : Int → Int} {r : Int × Int × (Int → Int) × Int} (hp : PW nd cn rd) (h0 : items = 0 → cn = 0) (h : itemP L x items nd cn rd p = .inr r) : PW r.1 r.2.1 r.2.2.1 := by
  rcases itemP_inr h with ⟨-, g0, v, h1, rfl⟩ | ⟨-, g0, v, h1, rfl⟩
  · have k := numP_ok h1
    have := h0 g0
    obtain ⟨a1, a2, a3, a4, a5⟩ := hp
    exact ⟨k.1, k.2.1, a3, a4, fun c c0 c1 => absurd c1 (by show ¬ c < cn; omega)⟩
  · exact contactP_PW hp g0 h1
theorem runP_PW {L : Int} {x : Int → Int} : ∀ (k : Nat) {items nd cn p : Int} {rd : Int → Int} {r : Int × Int × Int × (Int → Int)}, PW nd cn rd → 0 ≤ items → (items = 0 → cn = 0) → runP L x k items nd cn rd p = .inr r → PW r.2.1 r.2.2.1 r.2.2.2 := by
  intro k
  induction k with
  | zero => intro items nd cn p rd r _ _ _ h; cases h
  | succ k ih =>
    intro items nd cn p rd r hp hi h0 h
    unfold runP at h
    split at h
    · cases h; exact hp
    · cases hI : itemP L x items nd cn rd p with
      | inl q => rw [hI] at h; cases h
      | inr t =>
        rw [hI] at h
        simp only at h
        cases hS : semiP L x t.2.2.2 with
        | inl q => rw [hS] at h; cases h
        | inr p2 =>
          rw [hS] at h
          simp only at h
          exact ih (itemP_PW hp h0 hI) (by omega) (fun e => by omega) h
