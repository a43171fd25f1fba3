-- the model: one bundle planned
noncomputable def nodeP (of s : Int → Int) (b : Int) : Int := if it s b 7 = -9 then it s b 4 else cf of (it s b 7) 1
noncomputable def whenP (of s : Int → Int) (b : Int) : Int := if it s b 7 = -9 then s 0 else arrT of s b (it s b 7) (it s b 8)
/-- what is taken for a priority -/
def tkS (of s : Int → Int) (pr : Int) : Int → Int → Prop := TK of s (-1) pr (s 2)
noncomputable def ES (cn : Int) (of s : Int → Int) (b : Int) : Int → Int → Int := EE cn of s (tkS of s (it s b 3)) (it s b 0) (-9)
noncomputable def wayL (cn : Int) (F T : Int → Int) (E : Int → Int → Int) (v t g : Int) : List Int :=
  @dite _ (∃ l, ∃ a, BestW cn F T E v t g l a) (Classical.propDecidable _) (fun h => h.choose) (fun _ => [])
theorem wayL_is {cn v t g : Int} {F T : Int → Int} {E : Int → Int → Int} {l : List Int} {a : Int} (h : BestW cn F T E v t g l a) : wayL cn F T E v t g = l := by
  unfold wayL
  rw [dif_pos ⟨l, a, h⟩]
  obtain ⟨b, hb⟩ := (show ∃ l, ∃ a, BestW cn F T E v t g l a from ⟨l, a, h⟩).choose_spec
  exact (BestW_one hb h).1
noncomputable def wrH (s : Int → Int) (b : Int) (l bs : List Int) : Nat → Int → Int
  | 0 => s
  | k + 1 => set1 (set1 (wrH s b l bs k) (3 + 20 * b + (10 + 2 * k)) (l.getD k 0)) (3 + 20 * b + (10 + 2 * k + 1)) (bs.getD k 0)
/-- a bundle gets the hops of a way -/
noncomputable def getP (s : Int → Int) (b : Int) (l bs : List Int) : Int → Int := set1 (wrH s b l bs l.length) (3 + 20 * b + 9) l.length
noncomputable def bestA (cn : Int) (of s : Int → Int) (b : Int) : Int := dpP cn (Fc of) (Tc of) (ES cn of s b) (nodeP of s b) (whenP of s b) 5 (it s b 1)
noncomputable def bestL (cn : Int) (of s : Int → Int) (b : Int) : List Int := wayL cn (Fc of) (Tc of) (ES cn of s b) (nodeP of s b) (whenP of s b) (it s b 1)
noncomputable def bestB (cn : Int) (of s : Int → Int) (b : Int) : List Int := wayB of s (tkS of s (it s b 3)) (it s b 0) (bestL cn of s b) (whenP of s b)
noncomputable def planP (cn : Int) (of s : Int → Int) (b : Int) : (Int → Int) × Int :=
  if stateP of (giveP s b) b = 2 ∨ stateP of (giveP s b) b = 4 ∨ stateP of (giveP s b) b = 3 then (giveP s b, 0)
  else if nodeP of (giveP s b) b = it (giveP s b) b 1 then (giveP s b, 0)
  else if 9999 ≤ bestA cn of (giveP s b) b then (set1 (giveP s b) (3 + 20 * b + 6) 0, 0)
  else if it (giveP s b) b 2 < bestA cn of (giveP s b) b then (set1 (giveP s b) (3 + 20 * b + 6) 1, 0)
  else (giveAll (getP (set1 (giveP s b) (3 + 20 * b + 6) 1) b (bestL cn of (giveP s b) b) (bestB cn of (giveP s b) b)) (poSet of (getP (set1 (giveP s b) (3 + 20 * b + 6) 1) b (bestL cn of (giveP s b) b) (bestB cn of (giveP s b) b)) b (s 2).toNat) (s 2).toNat,
    poSet of (getP (set1 (giveP s b) (3 + 20 * b + 6) 1) b (bestL cn of (giveP s b) b) (bestB cn of (giveP s b) b)) b (s 2).toNat)
theorem EE_cong {cn : Int} {of s s' : Int → Int} {tk : Int → Int → Prop} {w out : Int} (h0 : s' 0 = s 0) (h1 : s' 1 = s 1) : EE cn of s' tk w out = EE cn of s tk w out := by
  funext c t
  unfold EE endE fbP OKt FR
  rw [h0, h1]
theorem wayB_cong {of s s' : Int → Int} {tk : Int → Int → Prop} {w : Int} (h0 : s' 0 = s 0) (l : List Int) (t : Int) : wayB of s' tk w l t = wayB of s tk w l t := by
  induction l generalizing t with
  | nil => rfl
  | cons c l ih =>
    have e1 : endE of s' tk w c t = endE of s tk w c t := by
      unfold endE fbP OKt FR
      rw [h0]
    have e2 : fbP of s' tk c (tkD of w c) t = fbP of s tk c (tkD of w c) t := by
      unfold fbP OKt FR
      rw [h0]
    show _ :: _ = _ :: _
    rw [e1, e2, ih]
theorem TK_x {of s : Int → Int} {b pr m c t : Int} (h : it s b 9 = 0) : TK of s b pr m c t ↔ TK of s (-1) pr m c t := by
  constructor
  · rintro ⟨o, h1, h2, h3 | ⟨h3, h4, h5⟩⟩
    · exact ⟨o, h1, h2, Or.inl h3⟩
    · exact ⟨o, h1, h2, Or.inr ⟨by omega, h4, h5⟩⟩
  · rintro ⟨o, h1, h2, h3 | ⟨h3, h4, k, h5, h6, h7⟩⟩
    · exact ⟨o, h1, h2, Or.inl h3⟩
    · refine ⟨o, h1, h2, Or.inr ⟨fun e => ?_, h4, k, h5, h6, h7⟩⟩
      rw [e, h] at h6
      omega
theorem best_of {cn v t g A : Int} {F T : Int → Int} {E : Int → Int → Int} {M : Nat} {l : List Int} (hm : monoE E) (ht : t < 9999) (hA : A = dpP cn F T E v t 5 g) (hM : M ≤ 5) (hl : LexL cn F T E g A M v t l) (hmin : ∀ i : Nat, i < M → ¬ dpP cn F T E v t i g = A) : BestW cn F T E v t g l A := by
  obtain ⟨h1, h2, h3⟩ := hl
  refine ⟨h2, by omega, fun m b hw hm5 => ?_⟩
  have h4 := dpP_of hm 5 m ht hm5 hw
  by_cases e : A = b
  · subst e
    refine Or.inr ⟨rfl, ?_⟩
    by_cases e2 : m.length < M
    · have h5 := dpP_of hm m.length m ht (Nat.le_refl _) hw
      have h6 := dpP_mono (cn := cn) (F := F) (T := T) (E := E) (v := v) (t := t) (u := g) hm5
      exact absurd (by omega) (hmin m.length e2)
    · by_cases e3 : m.length = M
      · exact Or.inr ⟨by omega, h3 m e3 hw⟩
      · exact Or.inl (by omega)
  · exact Or.inl (by omega)
theorem HH_of {cn v t g A : Int} {F T : Int → Int} {E : Int → Int → Int} {M : Nat} (hm : monoE E) (ht : t < 9999) (hA : A = dpP cn F T E v t 5 g) (hA9 : A < 9999) (hM : M ≤ 5) (hMA : dpP cn F T E v t M g = A) (hmin : ∀ i : Nat, i < M → ¬ dpP cn F T E v t i g = A) : HH cn F T E g A M v t := by
  refine ⟨?_, fun l a hl hw => ?_, fun l hl hw => ?_⟩
  · obtain ⟨l, h1, h2⟩ := dpP_is (cn := cn) (F := F) (T := T) (E := E) M (v := v) (t := t) (g := g) (by omega)
    rw [hMA] at h2
    exact ⟨l, h1, h2⟩
  · have := dpP_of hm 5 l ht (by omega) hw
    omega
  · have h5 := dpP_of hm l.length l ht (Nat.le_refl _) hw
    have h6 := dpP_mono (cn := cn) (F := F) (T := T) (E := E) (v := v) (t := t) (u := g) (show l.length ≤ 5 by omega)
    exact absurd (by omega) (hmin l.length hl)
/-- the rows that planning may change -/
def FrP (μ ν : Mem) : Prop := (∀ a, a ≠ 399 → a ≠ 402 → a ≠ 411 → a ≠ 412 → a ≠ 413 → a ≠ 414 → ν a = μ a) ∧ ∀ k, k ≠ 24 → k ≠ 27 → ν 399 k = μ 399 k
theorem FrP.rf {μ : Mem} : FrP μ μ := ⟨fun _ _ _ _ _ _ _ => rfl, fun _ _ _ => rfl⟩
theorem FrP.tr {μ ν ξ : Mem} (h : FrP μ ν) (h2 : FrP ν ξ) : FrP μ ξ := ⟨fun a a1 a2 a3 a4 a5 a6 => (h2.1 a a1 a2 a3 a4 a5 a6).trans (h.1 a a1 a2 a3 a4 a5 a6), fun k k1 k2 => (h2.2 k k1 k2).trans (h.2 k k1 k2)⟩
theorem FrP.s {μ ν : Mem} {k v : Int} (h : FrP μ ν) : FrP μ (up ν 402 k v) := ⟨fun a a1 a2 a3 a4 a5 a6 => by rw [up_ne a2]; exact h.1 a a1 a2 a3 a4 a5 a6, fun k k1 k2 => by rw [up_ne (by decide)]; exact h.2 k k1 k2⟩
theorem FrP.but {a0 : Int} {μ ν ξ : Mem} (ha : a0 = 402 ∨ a0 = 411 ∨ a0 = 412) (h : FrP μ ν) (h2 : But a0 ν ξ) : FrP μ ξ := ⟨fun a a1 a2 a3 a4 a5 a6 => by rw [h2 a (by omega)]; exact h.1 a a1 a2 a3 a4 a5 a6, fun k k1 k2 => by rw [h2 399 (by omega)]; exact h.2 k k1 k2⟩
theorem FrP.w {μ ν ξ : Mem} (h : FrP μ ν) (h2 : FrW ν ξ) : FrP μ ξ := ⟨fun a a1 a2 a3 a4 a5 a6 => by rw [h2.1 a a4 a5 a6 a1]; exact h.1 a a1 a2 a3 a4 a5 a6, fun k k1 k2 => by rw [h2.2 k k1 k2]; exact h.2 k k1 k2⟩
theorem FrP.x {μ ν ξ : Mem} (h : FrP μ ν) (h2 : FrX ν ξ) : FrP μ ξ := ⟨fun a a1 a2 a3 a4 a5 a6 => by rw [h2 a a4 a5 a6]; exact h.1 a a1 a2 a3 a4 a5 a6, fun k k1 k2 => by rw [h2 399 (by decide) (by decide) (by decide)]; exact h.2 k k1 k2⟩
/-- what is known of each hop of a way -/
theorem wayB_ok {nd cn w : Int} {of s : Int → Int} {tk : Int → Int → Prop} (hp : PW nd cn of) (hw : 1 ≤ w ∧ w ≤ 20) (hs : 0 ≤ s 0) (l : List Int) : ∀ {v t g a : Int}, WK cn (Fc of) (Tc of) (EE cn of s tk w (-9)) l v t g a → (wayB of s tk w l t).length = l.length ∧
    ∀ k : Nat, k < l.length → 0 ≤ l.getD k 0 ∧ l.getD k 0 < cn ∧ s 0 ≤ (wayB of s tk w l t).getD k 0 ∧ (wayB of s tk w l t).getD k 0 + tkD of w (l.getD k 0) ≤ 99 := by
  induction l with
  | nil => intro v t g a h; exact ⟨rfl, fun k hk => by simp at hk⟩
  | cons c l ih =>
    rintro v t g a ⟨⟨h1, h2, h3, h4⟩, h5⟩
    have hms : ¬ (c = -9 ∨ msB (s 1) c ∨ ¬ (0 ≤ c ∧ c < cn)) := fun q => by
      have : EE cn of s tk w (-9) c t = 9999 := if_pos q
      omega
    have hE : EE cn of s tk w (-9) c t = endE of s tk w c t := if_neg hms
    rw [hE] at h4 h5
    obtain ⟨i1, i2⟩ := ih h5
    have hof := hp.2.2.2.2 c h1 h2
    have hd := tkD_le hw.1 hw.2 hof.2.2.2.2.2.2.2.2.2.1 hof.2.2.2.2.2.2.2.2.2.2.1
    refine ⟨by show _ + 1 = _ + 1; rw [i1], fun k hk => ?_⟩
    cases k with
    | zero =>
      show 0 ≤ c ∧ c < cn ∧ s 0 ≤ (fbP of s tk c (tkD of w c) t).getD 9999 ∧ (fbP of s tk c (tkD of w c) t).getD 9999 + tkD of w c ≤ 99
      cases hf : fbP of s tk c (tkD of w c) t with
      | none =>
        unfold endE at h4
        rw [hf] at h4
        exact absurd (show (9999 : Int) < 9999 from h4) (by decide)
      | some r =>
        have := fbP_in hf (by omega)
        show 0 ≤ c ∧ c < cn ∧ s 0 ≤ r ∧ r + tkD of w c ≤ 99
        omega
    | succ k => exact i2 k (by simpa using hk)
theorem wrH_ne {s : Int → Int} {b : Int} {l bs : List Int} (k : Nat) (hk : k ≤ 5) {b' w : Int} (hw : 0 ≤ w ∧ w < 20) (h : b' ≠ b ∨ w < 10) : it (wrH s b l bs k) b' w = it s b' w := by
  induction k with
  | zero => rfl
  | succ k ih =>
    unfold wrH
    rw [it_set_ne (by omega) hw (by omega), it_set_ne (by omega) hw (by omega)]
    exact ih (by omega)
theorem wrH_lo {s : Int → Int} {b : Int} {l bs : List Int} (hb : 0 ≤ b) (k : Nat) {j : Int} (hj : j < 3) : wrH s b l bs k j = s j := by
  induction k with
  | zero => rfl
  | succ k ih =>
    unfold wrH
    rw [set1_ne (by omega), set1_ne (by omega)]
    exact ih
theorem wrH_at {s : Int → Int} {b : Int} {l bs : List Int} (k : Nat) (hk : k ≤ 5) {j : Nat} (hj : j < k) : it (wrH s b l bs k) b (10 + 2 * j) = l.getD j 0 ∧ it (wrH s b l bs k) b (10 + 2 * j + 1) = bs.getD j 0 := by
  induction k with
  | zero => omega
  | succ k ih =>
    unfold wrH
    by_cases e : j = k
    · subst e
      rw [it_set_ne (by omega) (by omega) (by omega), it_set_at (by omega), it_set_at (by omega)]
      exact ⟨rfl, rfl⟩
    · rw [it_set_ne (by omega) (by omega) (by omega), it_set_ne (by omega) (by omega) (by omega), it_set_ne (by omega) (by omega) (by omega), it_set_ne (by omega) (by omega) (by omega)]
      exact ih (by omega) (by omega)
section Plans
variable {G : GT} {n : Nat} {μ : Mem}
/-- hops are written, and those in the way pushed out -/
theorem S_plans211 (hg : gx G = FX) {Q : Int → Nat → Mem → Prop} {nd b : Int} {s : Int → Int} {l bs : List Int} (hp : PW nd (μ 399 2) (μ 400)) (hb : 0 ≤ b ∧ b < s 2) (hl5 : l.length ≤ 5) (hM : μ 399 24 = l.length)
    (hW : ∀ k : Nat, k < l.length → μ 413 k = l.getD k 0 ∧ μ 414 k = bs.getD k 0) (hs : μ 402 = s) (hSR : SR nd (μ 399 2) (μ 400) (getP s b l bs)) (hs2 : getP s b l bs 2 = s 2)
    (q : ∀ ν, But 402 μ ν → ν 402 = giveAll (getP s b l bs) (poSet (μ 400) (getP s b l bs) b (s 2).toNat) (s 2).toNat → Q (poSet (μ 400) (getP s b l bs) b (s 2).toNat) n ν) : B_X11_plans_211 G Q n μ b 0 := by
  have hm8 := hSR.2.2.2.1
  rw [hs2] at hm8
  have loop : ∀ (d k : Nat) (ν : Mem), k + d = l.length → But 402 μ ν → ν 402 = wrH s b l bs k → B_X11_plans_211 G Q n ν b k := by
    intro d
    induction d with
    | zero =>
      intro k ν e hB hν
      have e9 : ν 399 = μ 399 := hB 399 (by decide)
      have e4 : ν 400 = μ 400 := hB 400 (by decide)
      refine b_X11_plans_211 hg ⟨fun _ => S_at hg (by omega) ⟨by omega, by omega, ?_⟩, fun c => absurd (by rw [e9, hM]; omega) c⟩
      have e2 : (up ν 402 (3 + 20 * b + 9) (ν 399 24)) 402 = getP s b l bs := by
        rw [up_row, hν, e9, hM, show k = l.length by omega]
        rfl
      have hB1 : But 402 μ (up ν 402 (3 + 20 * b + 9) (ν 399 24)) := hB.up
      generalize up ν 402 (3 + 20 * b + 9) (ν 399 24) = ξ at e2 hB1 ⊢
      have x9 : ξ 399 = μ 399 := hB1 399 (by decide)
      have x4 : ξ 400 = μ 400 := hB1 400 (by decide)
      refine S_pushesOut hg (nd := nd) (cn := μ 399 2) (by rw [x4]; exact hp) (by rw [x4, e2]; exact hSR) (by rw [e2, hs2]; exact hb) (fun ζ hB2 hζ => ?_)
      rw [x4, e2, hs2] at hζ ⊢
      exact q ζ (hB1.tr hB2) hζ
    | succ d ih =>
      intro k ν e hB hν
      have e9 : ν 399 = μ 399 := hB 399 (by decide)
      have h13 : ν 413 = μ 413 := hB 413 (by decide)
      have h14 : ν 414 = μ 414 := hB 414 (by decide)
      have hk := hW k (by omega)
      refine b_X11_plans_211 hg ⟨fun c => absurd c (by rw [e9, hM]; omega), fun _ => S_at hg (by omega) ⟨by omega, by omega, by omega, by omega, by omega, S_at hg (by omega) ⟨by omega, by omega, by omega, by omega, by omega, by omega, by omega, ?_⟩⟩⟩
      refine ih (k + 1) _ (by omega) (hB.up.up) ?_
      rw [up_row, up_row, up_ne (show (414 : Int) ≠ 402 by decide), h13, h14, hk.1, hk.2, hν, wrH]
      rw [show 3 + 20 * b + 10 + 2 * (k : Int) = 3 + 20 * b + (10 + 2 * k) by omega, show 3 + 20 * b + (10 + 2 * (k : Int)) + 1 = 3 + 20 * b + (10 + 2 * k + 1) by omega]
  exact loop l.length 0 μ (by omega) (fun _ _ => rfl) hs
theorem getP_it {s : Int → Int} {b : Int} {l bs : List Int} (hl : l.length ≤ 5) {b' w : Int} (hw : 0 ≤ w ∧ w < 20) (h : b' ≠ b ∨ w < 9) : it (getP s b l bs) b' w = it s b' w := by
  unfold getP
  rw [it_set_ne (by omega) hw (by omega)]
  exact wrH_ne _ hl hw (by omega)
theorem getP_9 {s : Int → Int} {b : Int} {l bs : List Int} : it (getP s b l bs) b 9 = l.length := it_set_at (by omega)
theorem getP_hop {s : Int → Int} {b : Int} {l bs : List Int} (hl : l.length ≤ 5) {j : Nat} (hj : j < l.length) : hopC (getP s b l bs) b j = l.getD j 0 ∧ hopB (getP s b l bs) b j = bs.getD j 0 := by
  unfold getP hopC hopB
  rw [it_set_ne (by omega) (by omega) (by omega), it_set_ne (by omega) (by omega) (by omega)]
  exact wrH_at _ hl hj
theorem getP_lo {s : Int → Int} {b : Int} {l bs : List Int} (hb : 0 ≤ b) {j : Int} (hj : j < 3) : getP s b l bs j = s j := by
  unfold getP
  rw [set1_ne (by omega)]
  exact wrH_lo hb _ hj
theorem getP_SR {nd cn b : Int} {of s : Int → Int} {l bs : List Int} (hb : 0 ≤ b ∧ b < s 2) (h : SR nd cn of s) (hl : l.length ≤ 5) (hk : ∀ k : Nat, k < l.length → 0 ≤ l.getD k 0 ∧ l.getD k 0 < cn ∧ 0 ≤ bs.getD k 0 ∧ bs.getD k 0 + tkD of (it s b 0) (l.getD k 0) ≤ 99) : SR nd cn of (getP s b l bs) := by
  obtain ⟨h1, h2, h3, h4, h5⟩ := h
  have e : ∀ k, k < 3 → getP s b l bs k = s k := fun k hk => getP_lo hb.1 hk
  refine ⟨by rw [e 0 (by decide)]; exact h1, by rw [e 0 (by decide)]; exact h2, by rw [e 2 (by decide)]; exact h3, by rw [e 2 (by decide)]; exact h4, fun b' g1 g2 => ?_⟩
  rw [e 2 (by decide)] at g2
  by_cases eb : b' = b
  · subst eb
    obtain ⟨a1, a2, a3, a4, a5, a6, a7, a8, a9, a10, a11, a12, a13, a14, a15, a16, a17⟩ := h5 b' g1 g2
    have hit : ∀ w, 0 ≤ w → w < 9 → it (getP s b' l bs) b' w = it s b' w := fun w h0 h1 => getP_it hl (by omega) (Or.inr h1)
    unfold BR
    rw [hit 0 (by decide) (by decide), hit 1 (by decide) (by decide), hit 2 (by decide) (by decide), hit 3 (by decide) (by decide), hit 4 (by decide) (by decide), hit 5 (by decide) (by decide), hit 6 (by decide) (by decide), hit 7 (by decide) (by decide), hit 8 (by decide) (by decide), getP_9]
    refine ⟨a1, a2, a3, a4, a5, a6, a7, a8, a9, a10, a11, a12, a13, by omega, by omega, fun k k0 k1 => ?_, a17⟩
    have h6 := hk k.toNat (by omega)
    have h7 := getP_hop (s := s) (b := b') (bs := bs) hl (j := k.toNat) (by omega)
    rw [a_toNat k0] at h7
    rw [h7.1, h7.2]
    exact h6
  · exact BR_same (fun w h0 h1 => getP_it hl ⟨h0, h1⟩ (Or.inl eb)) (h5 b' g1 g2)
theorem SR_why {nd cn b v : Int} {of s : Int → Int} (hb : 0 ≤ b) (hv : v = 0 ∨ v = 1) (h : SR nd cn of s) : SR nd cn of (set1 s (3 + 20 * b + 6) v) := by
  obtain ⟨h1, h2, h3, h4, h5⟩ := h
  have e : ∀ k, k < 3 → set1 s (3 + 20 * b + 6) v k = s k := fun k hk => set1_ne (by omega)
  refine ⟨by rw [e 0 (by decide)]; exact h1, by rw [e 0 (by decide)]; exact h2, by rw [e 2 (by decide)]; exact h3, by rw [e 2 (by decide)]; exact h4, fun b' g1 g2 => ?_⟩
  rw [e 2 (by decide)] at g2
  by_cases eb : b' = b
  · subst eb
    obtain ⟨a1, a2, a3, a4, a5, a6, a7, a8, a9, a10, a11, a12, a13, a14, a15, a16, a17⟩ := h5 b' g1 g2
    have hit : ∀ w, 0 ≤ w → w < 20 → w ≠ 6 → it (set1 s (3 + 20 * b' + 6) v) b' w = it s b' w := fun w h0 h1 h2 => it_set_ne (by omega) ⟨h0, h1⟩ (Or.inr h2)
    unfold BR hopC hopB at *
    rw [hit 0 (by decide) (by decide) (by decide), hit 1 (by decide) (by decide) (by decide), hit 2 (by decide) (by decide) (by decide), hit 3 (by decide) (by decide) (by decide), hit 4 (by decide) (by decide) (by decide), hit 5 (by decide) (by decide) (by decide), hit 7 (by decide) (by decide) (by decide), hit 8 (by decide) (by decide) (by decide), hit 9 (by decide) (by decide) (by decide), it_set_at (by omega)]
    refine ⟨a1, a2, a3, a4, a5, a6, a7, a8, a9, a10, a11, hv, a13, a14, a15, fun k k0 k1 => ?_, a17⟩
    rw [hit _ (by omega) (by omega) (by omega), hit _ (by omega) (by omega) (by omega)]
    exact a16 k k0 k1
  · exact BR_same (fun w h0 h1 => it_set_ne (by omega) ⟨h0, h1⟩ (Or.inl eb)) (h5 b' g1 g2)
end Plans
