-- the model: whether there is a way, and which
section Greedy
variable {cn : Int} {F T : Int → Int} {E : Int → Int → Int} {g A : Int}
/-- r contacts lead on, no fewer do, none leads there earlier -/
def HH (cn : Int) (F T : Int → Int) (E : Int → Int → Int) (g A : Int) (r : Nat) (v t : Int) : Prop :=
  (∃ l : List Int, l.length ≤ r ∧ WK cn F T E l v t g A) ∧ (∀ (l : List Int) (a : Int), l.length ≤ r → WK cn F T E l v t g a → A ≤ a) ∧ (∀ l : List Int, l.length < r → ¬ WK cn F T E l v t g A)
def LexL (cn : Int) (F T : Int → Int) (E : Int → Int → Int) (g A : Int) (r : Nat) (v t : Int) (l : List Int) : Prop :=
  l.length = r ∧ WK cn F T E l v t g A ∧ ∀ m : List Int, m.length = r → WK cn F T E m v t g A → lexB l m
def good (cn : Int) (F T : Int → Int) (E : Int → Int → Int) (g A : Int) (r : Nat) (v t c : Int) : Prop := 0 ≤ c ∧ c < cn ∧ F c = v ∧ E c t < 9999 ∧ dpP cn F T E (T c) (E c t) r g = A
theorem HH_dp (hm : monoE E) {r : Nat} {v t c : Int} (h : HH cn F T E g A (r + 1) v t) (hc : 0 ≤ c ∧ c < cn ∧ F c = v ∧ E c t < 9999) {l : List Int} (hl : l.length ≤ r) (hw : WK cn F T E l (T c) (E c t) g A) : dpP cn F T E (T c) (E c t) r g = A := by
  have h1 := dpP_of hm r l hc.2.2.2 hl hw
  have hA : A < 9999 := WK_lt hc.2.2.2 hw
  obtain ⟨m, h2, h3⟩ := dpP_is (cn := cn) (F := F) (T := T) (E := E) r (v := T c) (t := E c t) (g := g) (by omega)
  have h4 := h.2.1 (c :: m) _ (by rw [List.length_cons]; omega) ⟨hc, h3⟩
  omega
theorem HH_good (hm : monoE E) {r : Nat} {v t : Int} (h : HH cn F T E g A (r + 1) v t) : ∃ c, good cn F T E g A r v t c := by
  obtain ⟨l, h1, h2⟩ := h.1
  cases l with
  | nil => exact absurd h2 (h.2.2 [] (by simp))
  | cons c l =>
    obtain ⟨h3, h4⟩ := h2
    rw [List.length_cons] at h1
    exact ⟨c, h3.1, h3.2.1, h3.2.2.1, h3.2.2.2, HH_dp hm h h3 (by omega) h4⟩
theorem HH_next {r : Nat} {v t c : Int} (h : HH cn F T E g A (r + 1) v t) (hA : A < 9999) (hc : good cn F T E g A r v t c) : HH cn F T E g A r (T c) (E c t) := by
  obtain ⟨h1, h2, h3, h4, h5⟩ := hc
  refine ⟨?_, fun l a hl hw => ?_, fun l hl hw => ?_⟩
  · obtain ⟨l, h6, h7⟩ := dpP_is (cn := cn) (F := F) (T := T) (E := E) r (v := T c) (t := E c t) (g := g) (by omega)
    rw [h5] at h7
    exact ⟨l, h6, h7⟩
  · exact h.2.1 (c :: l) a (by rw [List.length_cons]; omega) ⟨⟨h1, h2, h3, h4⟩, hw⟩
  · exact h.2.2 (c :: l) (by rw [List.length_cons]; omega) ⟨⟨h1, h2, h3, h4⟩, hw⟩
theorem LexL_cons (hm : monoE E) {r : Nat} {v t c : Int} (h : HH cn F T E g A (r + 1) v t) (hc : good cn F T E g A r v t c) (hl : ∀ d, d < c → ¬ good cn F T E g A r v t d) {l : List Int} (h2 : LexL cn F T E g A r (T c) (E c t) l) : LexL cn F T E g A (r + 1) v t (c :: l) := by
  refine ⟨by rw [List.length_cons, h2.1], ⟨⟨hc.1, hc.2.1, hc.2.2.1, hc.2.2.2.1⟩, h2.2.1⟩, fun m hm1 hm2 => ?_⟩
  cases m with
  | nil => simp at hm1
  | cons d m =>
    obtain ⟨h3, h4⟩ := hm2
    rw [List.length_cons] at hm1
    have h5 : good cn F T E g A r v t d := ⟨h3.1, h3.2.1, h3.2.2.1, h3.2.2.2, HH_dp hm h h3 (by omega) h4⟩
    by_cases e : d < c
    · exact absurd h5 (hl d e)
    · by_cases e2 : c = d
      · subst e2
        exact Or.inr ⟨rfl, h2.2.2 m (by omega) h4⟩
      · exact Or.inl (by omega)
/-- the least of those that are good -/
theorem good_least {P : Int → Prop} {c : Int} (h0 : 0 ≤ c) (h : P c) : ∃ d, 0 ≤ d ∧ d ≤ c ∧ P d ∧ ∀ e, 0 ≤ e → e < d → ¬ P e := by
  have key : ∀ (k : Nat) (c : Int), c = k → P c → ∃ d, 0 ≤ d ∧ d ≤ c ∧ P d ∧ ∀ e, 0 ≤ e → e < d → ¬ P e := by
    intro k
    induction k using Nat.strongRecOn with
    | _ k ih =>
      intro c hc hp
      by_cases h1 : ∃ e, 0 ≤ e ∧ e < c ∧ P e
      · obtain ⟨e, h2, h3, h4⟩ := h1
        obtain ⟨d, h5, h6, h7⟩ := ih e.toNat (by omega) e (by omega) h4
        exact ⟨d, h5, by omega, h7⟩
      · exact ⟨c, by omega, Int.le_refl _, hp, fun e h2 h3 h4 => h1 ⟨e, h2, h3, h4⟩⟩
  exact key c.toNat c (by omega) h
end Greedy
/-- when the hops of a way begin -/
noncomputable def wayB (of s : Int → Int) (tk : Int → Int → Prop) (w : Int) : List Int → Int → List Int
  | [], _ => []
  | c :: l, t => (fbP of s tk c (tkD of w c) t).getD 9999 :: wayB of s tk w l (endE of s tk w c t)
/-- the scratch rows of ways -/
def FrW (μ ν : Mem) : Prop := (∀ a, a ≠ 412 → a ≠ 413 → a ≠ 414 → a ≠ 399 → ν a = μ a) ∧ ∀ k, k ≠ 24 → k ≠ 27 → ν 399 k = μ 399 k
def FrX (μ ν : Mem) : Prop := ∀ a, a ≠ 412 → a ≠ 413 → a ≠ 414 → ν a = μ a
section Way
variable {G : GT} {n : Nat} {μ : Mem}
theorem S_leadsThere (hg : gx G = FX) {Q : Int → Nat → Mem → Prop} {nd w node t most goal due : Int} {tk : Int → Int → Prop} (hp : PW nd (μ 399 2) (μ 400)) (hw : 1 ≤ w ∧ w ≤ 20) (hs : 0 ≤ μ 402 0 ∧ μ 402 0 ≤ 99) (ht : 0 ≤ t ∧ t ≤ 9998) (hm : 0 ≤ most ∧ most ≤ 5) (hgo : 0 ≤ goal ∧ goal < nd) (hk : Mk μ tk)
    (q0 : ¬ dpP (μ 399 2) (Fc (μ 400)) (Tc (μ 400)) (EE (μ 399 2) (μ 400) (μ 402) tk w (-9)) node t most.toNat goal = due → ∀ ν, But 412 μ ν → Q 0 n ν)
    (q1 : dpP (μ 399 2) (Fc (μ 400)) (Tc (μ 400)) (EE (μ 399 2) (μ 400) (μ 402) tk w (-9)) node t most.toNat goal = due → ∀ ν, But 412 μ ν → Q 1 n ν) : CI G Y_X11_leadsThere [.inr 399, .inl w, .inl node, .inl t, .inl most, .inl goal, .inl due] n μ Q := by
  have hn6 := hp.2.1
  refine m_X11_leadsThere hg (S_laysFirst hg hp hw hs ht hm hk (fun ν hB hν => ?_))
  have e := hν most.toNat goal (by omega) hgo.1 (by omega)
  rw [a_toNat hm.1] at e
  rw [e]
  exact ⟨by omega, by omega, by omega, fun c => q0 c ν hB, fun c => q1 c ν hB⟩
theorem S_findsEnd (hg : gx G = FX) {Q : Int → Nat → Mem → Prop} {nd w node t goal out : Int} {tk : Int → Int → Prop} (hp : PW nd (μ 399 2) (μ 400)) (hw : 1 ≤ w ∧ w ≤ 20) (hs : 0 ≤ μ 402 0 ∧ μ 402 0 ≤ 99) (ht : 0 ≤ t ∧ t ≤ 9998) (hgo : 0 ≤ goal ∧ goal < nd) (hk : Mk μ tk)
    (q : ∀ (ν : Mem) (M : Nat) (A : Int), FrW μ ν → A = dpP (μ 399 2) (Fc (μ 400)) (Tc (μ 400)) (EE (μ 399 2) (μ 400) (μ 402) tk w out) node t 5 goal → ν 399 27 = A → ν 399 24 = M → M ≤ 5 → dpP (μ 399 2) (Fc (μ 400)) (Tc (μ 400)) (EE (μ 399 2) (μ 400) (μ 402) tk w out) node t M goal = A →
      (∀ i : Nat, i < M → ¬ dpP (μ 399 2) (Fc (μ 400)) (Tc (μ 400)) (EE (μ 399 2) (μ 400) (μ 402) tk w out) node t i goal = A) → (9999 ≤ A → Q 0 n ν) ∧ (A < 9999 → Q 1 n ν)) : CI G Y_X11_findsEnd [.inr 399, .inl w, .inl node, .inl t, .inl goal, .inl out] n μ Q := by
  have hn6 := hp.2.1
  generalize hE : EE (μ 399 2) (μ 400) (μ 402) tk w out = E at *
  refine m_X11_findsEnd hg (S_laysFirst hg (tk := tk) hp hw hs ht (by omega) hk (fun ν hB hν => ⟨by omega, by omega, ?_⟩))
  rw [hE] at hν
  generalize hd : dpP (μ 399 2) (Fc (μ 400)) (Tc (μ 400)) E node t = d at *
  have hν' : ∀ (j : Nat), j ≤ 5 → ν 412 (6 * j + goal) = d j goal := fun j hj => hν j goal (by omega) hgo.1 (by omega)
  have e5 : ν 412 (30 + goal) = d 5 goal := hν' 5 (by omega)
  rw [e5]
  have mono : ∀ i j : Nat, i ≤ j → d j goal ≤ d i goal := fun i j h => by rw [← hd]; exact dpP_mono h
  have ends : ∀ (ξ : Mem) (M : Nat), FrW μ ξ → ξ 399 27 = d 5 goal → ξ 399 24 = M → M ≤ 5 → d M goal = d 5 goal → (∀ i : Nat, i < M → ¬ d i goal = d 5 goal) → B_X11_findsEnd_74 G Q n ξ := by
    intro ξ M hF h27 h24 hM h1 h2
    have := q ξ M (d 5 goal) hF rfl h27 h24 hM h1 h2
    refine b_X11_findsEnd_74 hg ⟨fun c => this.1 (by omega), fun c => this.2 (by omega)⟩
  have loop : ∀ (M : Nat) (ξ : Mem), M ≤ 5 → FrW μ ξ → ξ 412 = ν 412 → ξ 399 27 = d 5 goal → ξ 399 24 = M → d M goal = d 5 goal → B_X11_findsEnd_29 G Q n ξ goal := by
    intro M
    induction M with
    | zero =>
      intro ξ hM hF h12 h27 h24 hd5
      refine b_X11_findsEnd_29 hg ⟨fun _ => ends ξ 0 hF h27 h24 hM hd5 (fun i h => by omega), fun c => absurd (by omega) c⟩
    | succ M ih =>
      intro ξ hM hF h12 h27 h24 hd5
      have h24' : ξ 399 24 = (M : Int) + 1 := by rw [h24]; omega
      refine b_X11_findsEnd_29 hg ⟨fun c => absurd c (by omega), fun _ => ?_⟩
      rw [h24', h12, show 6 * ((M : Int) + 1) - 6 + goal = 6 * M + goal by omega, hν' M (by omega), h27]
      refine ⟨by omega, by omega, by omega, by omega, fun c => ?_, fun c => ⟨by omega, ih _ (by omega) ⟨fun a h1 h2 h3 h4 => by rw [up_ne h4]; exact hF.1 a h1 h2 h3 h4, fun k h1 h2 => by rw [up_oth h1]; exact hF.2 k h1 h2⟩ (by rw [up_ne (by decide)]; exact h12) (by rw [up_oth (by decide)]; exact h27) (by rw [up_self]; omega) c⟩⟩
      refine ends ξ (M + 1) hF h27 h24 hM hd5 (fun i hi e => c ?_)
      have h1 := mono i M (by omega)
      have h2 := mono M 5 (by omega)
      omega
  refine loop 5 _ (by omega) ⟨fun a h1 h2 h3 h4 => by rw [up_ne h4, up_ne h4]; exact hB a h1, fun k h1 h2 => by rw [up_oth h1, up_oth h2, hB 399 (by decide)]⟩ ?_ ?_ (up_self _ _ _ _) rfl
  · rw [up_ne (by decide), up_ne (by decide)]
  · rw [up_oth (by decide), up_self]
theorem S_findsWay (hg : gx G = FX) {Q : Nat → Mem → Prop} {nd w node t goal A : Int} {M : Nat} {tk : Int → Int → Prop} (hp : PW nd (μ 399 2) (μ 400)) (hw : 1 ≤ w ∧ w ≤ 20) (hs : 0 ≤ μ 402 0 ∧ μ 402 0 ≤ 99) (ht : 0 ≤ t ∧ t ≤ 9998) (hgo : 0 ≤ goal ∧ goal < nd) (hk : Mk μ tk)
    (hM : μ 399 24 = M) (hM5 : M ≤ 5) (hA : μ 399 27 = A) (hA9 : A < 9999) (hH : HH (μ 399 2) (Fc (μ 400)) (Tc (μ 400)) (EE (μ 399 2) (μ 400) (μ 402) tk w (-9)) goal A M node t)
    (q : ∀ (ν : Mem) (l : List Int), FrX μ ν → LexL (μ 399 2) (Fc (μ 400)) (Tc (μ 400)) (EE (μ 399 2) (μ 400) (μ 402) tk w (-9)) goal A M node t l → (∀ k : Nat, k < M → ν 413 k = l.getD k 0 ∧ ν 414 k = (wayB (μ 400) (μ 402) tk w l t).getD k 0) → Q n ν) : CV G Y_X11_findsWay [.inr 399, .inl w, .inl node, .inl t, .inl goal] n μ Q := by
  have hn6 := hp.2.1
  have hc8 := hp.2.2.2.1
  have hof := hp.2.2.2.2
  have hmono : monoE (EE (μ 399 2) (μ 400) (μ 402) tk w (-9)) := EE_mono hp hw
  have hEc : ∀ c x, 0 ≤ c → c < μ 399 2 → ¬ msB (μ 402 1) c → EE (μ 399 2) (μ 400) (μ 402) tk w (-9) c x = endE (μ 400) (μ 402) tk w c x := fun c x h0 h1 h2 => by
    refine if_neg ?_
    rintro (g | g | g)
    · omega
    · exact h2 g
    · exact g ⟨h0, h1⟩
  have hEm : ∀ c x, msB (μ 402 1) c → EE (μ 399 2) (μ 400) (μ 402) tk w (-9) c x = 9999 := fun c x h => if_pos (Or.inr (Or.inl h))
  have hEu : upE (EE (μ 399 2) (μ 400) (μ 402) tk w (-9)) := EE_up hp hw
  generalize hEE : EE (μ 399 2) (μ 400) (μ 402) tk w (-9) = E at *
  have outer : ∀ (r k : Nat) (v x : Int) (p : List Int) (ν : Mem), k + r = M → FrX μ ν → p.length = k → 0 ≤ x → x ≤ 9998 → HH (μ 399 2) (Fc (μ 400)) (Tc (μ 400)) E goal A r v x →
      (∀ l, LexL (μ 399 2) (Fc (μ 400)) (Tc (μ 400)) E goal A r v x l → LexL (μ 399 2) (Fc (μ 400)) (Tc (μ 400)) E goal A M node t (p ++ l)) →
      (∀ l, wayB (μ 400) (μ 402) tk w (p ++ l) t = wayB (μ 400) (μ 402) tk w p t ++ wayB (μ 400) (μ 402) tk w l x) →
      (wayB (μ 400) (μ 402) tk w p t).length = k →
      (∀ j : Nat, j < k → ν 413 j = p.getD j 0 ∧ ν 414 j = (wayB (μ 400) (μ 402) tk w p t).getD j 0) → B_X11_findsWay_9 G Q n ν w goal v x k := by
    intro r
    induction r with
    | zero =>
      intro k v x p ν e hF hpl hx0 hx1 hh hl hW hwl hν
      refine b_X11_findsWay_9 hg ⟨fun _ => ?_, fun c => absurd (by rw [hF 399 (by decide) (by decide) (by decide), hM]; omega) c⟩
      obtain ⟨l, h1, h2⟩ := hh.1
      have e0 : l = [] := List.length_eq_zero_iff.mp (by omega)
      subst e0
      have h3 := hl [] ⟨rfl, h2, fun _ _ _ => trivial⟩
      rw [List.append_nil] at h3
      refine q ν p hF h3 (fun j hj => hν j (by omega))
    | succ r ih =>
      intro k v x p ν e hF hpl hx0 hx1 hh hl hW hwl hν
      have e9 : ν 399 = μ 399 := hF 399 (by decide) (by decide) (by decide)
      refine b_X11_findsWay_9 hg ⟨fun c => absurd c (by rw [e9, hM]; omega), fun _ => ?_⟩
      obtain ⟨c0, hc0⟩ := HH_good hmono hh
      obtain ⟨c, h1, h2, h3, h4⟩ := good_least (P := good (μ 399 2) (Fc (μ 400)) (Tc (μ 400)) E goal A r v x) hc0.1 hc0
      have inner : ∀ (d : Nat) (b : Int) (ξ : Mem), b + d = c → 0 ≤ b → FrX μ ξ → ξ 413 = ν 413 → ξ 414 = ν 414 → B_X11_findsWay_24 G Q n ξ w goal v x k b 0 := by
        intro d
        induction d with
        | zero =>
          intro b ξ eb hb hX h13 h14
          have ebc : b = c := by omega
          subst ebc
          have x4 : ξ 400 = μ 400 := hX 400 (by decide) (by decide) (by decide)
          have x2 : ξ 402 = μ 402 := hX 402 (by decide) (by decide) (by decide)
          have x9 : ξ 399 = μ 399 := hX 399 (by decide) (by decide) (by decide)
          have x1 : ξ 411 = μ 411 := hX 411 (by decide) (by decide) (by decide)
          have hc := hof b h3.1 h3.2.1
          have hms : ¬ msB (μ 402 1) b := fun g => by
            have := hEm b x g
            have := h3.2.2.2.1
            omega
          have hE1 := hEc b x h3.1 h3.2.1 hms
          have eF : μ 400 (6 * b) = v := by have := h3.2.2.1; unfold Fc cf at this; rw [Int.add_zero] at this; exact this
          refine b_X11_findsWay_24 hg ⟨fun g => absurd rfl g, fun _ => ⟨by have := h3.2.1; omega, by have := h3.2.1; omega, fun g => absurd (by rw [x4]; exact eF) g, fun _ => S_isMissed hg (fun _ => ⟨fun g => absurd rfl g, fun _ => ?_⟩) (fun g => absurd (by rw [x2] at g; exact g) hms)⟩⟩
          refine S_endsAt hg (nd := nd) (cn := μ 399 2) (tk := tk) (by rw [x4]; exact hp) ⟨h3.1, h3.2.1⟩ hw (by rw [x2]; exact hs) (by omega) (fun c t g0 g1 g2 g3 => by rw [x1]; exact hk c t g0 g1 g2 g3) ?_
          rw [x4, x2, ← hE1]
          have hu := hEu b x h3.2.2.2.1
          refine b_X11_findsWay_68 hg ⟨fun g => absurd g (by have := h3.2.2.2.1; omega), fun _ => ⟨by have := h3.2.1; omega, by have := h3.2.1; omega, by have := h3.2.1; omega, by rw [x9, hM]; omega, by rw [x9, hM]; omega, ?_⟩⟩
          rw [x9, hM, hA, x4, show (M : Int) - k - 1 = r by omega]
          have hdp : dpP (ξ 399 2) (Fc (ξ 400)) (Tc (ξ 400)) (EE (ξ 399 2) (ξ 400) (ξ 402) tk w (-9)) (Tc (μ 400) b) (E b x) (r : Int).toNat goal = A := by
            rw [x9, x4, x2, hEE, Int.toNat_natCast]
            exact h3.2.2.2.2
          refine S_leadsThere hg (nd := nd) (tk := tk) (by rw [x9, x4]; exact hp) hw (by rw [x2]; exact hs) (by have := h3.2.2.2.1; omega) (by omega) hgo (fun c t g0 g1 g2 g3 => by rw [x1]; exact hk c t g0 g1 g2 g3) (fun g => absurd hdp g) (fun _ ζ hB => ⟨fun g => absurd g (by decide), fun _ => ?_⟩)
          have hζ : FrX μ ζ := fun a g1 g2 g3 => by rw [hB a g1]; exact hX a g1 g2 g3
          have z4 : ζ 400 = μ 400 := hζ 400 (by decide) (by decide) (by decide)
          have z2 : ζ 402 = μ 402 := hζ 402 (by decide) (by decide) (by decide)
          have z1 : ζ 411 = μ 411 := hζ 411 (by decide) (by decide) (by decide)
          refine b_X11_findsWay_120 hg ⟨fun g => absurd g (by decide), fun _ => ⟨by have := h3.2.1; omega, ?_⟩⟩
          rw [Int.add_zero]
          refine b_X11_findsWay_24 hg ⟨fun _ => ⟨by omega, ?_⟩, fun g => absurd g (by decide)⟩
          have u4 : (up ζ 413 k b) 400 = μ 400 := by rw [up_ne (by decide), z4]
          have u2 : (up ζ 413 k b) 402 = μ 402 := by rw [up_ne (by decide), z2]
          have u1 : (up ζ 413 k b) 411 = μ 411 := by rw [up_ne (by decide), z1]
          refine S_beginsAt hg (nd := nd) (cn := μ 399 2) (tk := tk) (by rw [u4]; exact hp) ⟨h3.1, h3.2.1⟩ hw (by rw [u2]; exact hs) (by omega) (fun c t g0 g1 g2 g3 => by rw [u1]; exact hk c t g0 g1 g2 g3) ⟨by omega, ?_⟩
          rw [u4, u2]
          generalize hbeg : (fbP (μ 400) (μ 402) tk b (tkD (μ 400) w b) x).getD 9999 = bg
          have w4 : (up (up ζ 413 k b) 414 k bg) 400 = μ 400 := by rw [up_ne (by decide), u4]
          have w2 : (up (up ζ 413 k b) 414 k bg) 402 = μ 402 := by rw [up_ne (by decide), u2]
          have w1 : (up (up ζ 413 k b) 414 k bg) 411 = μ 411 := by rw [up_ne (by decide), u1]
          refine S_endsAt hg (nd := nd) (cn := μ 399 2) (tk := tk) (by rw [w4]; exact hp) ⟨h3.1, h3.2.1⟩ hw (by rw [w2]; exact hs) (by omega) (fun c t g0 g1 g2 g3 => by rw [w1]; exact hk c t g0 g1 g2 g3) ?_
          rw [w4, w2, ← hE1]
          refine ⟨by have := h3.2.1; omega, by have := h3.2.1; omega, by have := h3.2.1; omega, by omega, ?_⟩
          have hn : HH (μ 399 2) (Fc (μ 400)) (Tc (μ 400)) E goal A r (Tc (μ 400) b) (E b x) := HH_next hh hA9 h3
          have hwB : wayB (μ 400) (μ 402) tk w (p ++ [b]) t = wayB (μ 400) (μ 402) tk w p t ++ [bg] := by
            rw [hW [b], ← hbeg]
            rfl
          have hwx : ∀ l, wayB (μ 400) (μ 402) tk w ((p ++ [b]) ++ l) t = wayB (μ 400) (μ 402) tk w (p ++ [b]) t ++ wayB (μ 400) (μ 402) tk w l (E b x) := fun l => by
            rw [hwB, List.append_assoc, hW, List.append_assoc, hE1, ← hbeg]
            rfl
          refine ih (k + 1) (Tc (μ 400) b) (E b x) (p ++ [b]) _ (by omega) (fun a g1 g2 g3 => by rw [up_ne g3, up_ne g2]; exact hζ a g1 g2 g3) (by rw [List.length_append, hpl]; rfl) (by omega) (by have := h3.2.2.2.1; omega) hn (fun l hl2 => ?_) hwx (by rw [hwB, List.length_append, hwl]; rfl) (fun j hj => ?_)
          · rw [List.append_assoc]
            exact hl _ (LexL_cons hmono hh h3 (fun d hd hg => h4 d hg.1 hd hg) hl2)
          · rw [hwB]
            by_cases ej : j = k
            · subst ej
              refine ⟨?_, ?_⟩
              · rw [up_ne (by decide), up_self, List.getD_eq_getElem?_getD, List.getElem?_append_right (by omega), hpl, Nat.sub_self]
                rfl
              · rw [up_self, List.getD_eq_getElem?_getD, List.getElem?_append_right (by omega), hwl, Nat.sub_self]
                rfl
            · have hj2 := hν j (by omega)
              rw [up_ne (by decide), up_oth (by omega), up_oth (by omega), up_ne (by decide), hB 413 (by decide), hB 414 (by decide), h13, h14, List.getD_eq_getElem?_getD, List.getElem?_append_left (by omega), List.getD_eq_getElem?_getD, List.getElem?_append_left (by omega), ← List.getD_eq_getElem?_getD, ← List.getD_eq_getElem?_getD]
              exact hj2
        | succ d ihd =>
          intro b ξ eb hb hX h13 h14
          have x4 : ξ 400 = μ 400 := hX 400 (by decide) (by decide) (by decide)
          have x2 : ξ 402 = μ 402 := hX 402 (by decide) (by decide) (by decide)
          have x9 : ξ 399 = μ 399 := hX 399 (by decide) (by decide) (by decide)
          have x1 : ξ 411 = μ 411 := hX 411 (by decide) (by decide) (by decide)
          have hbc : b < μ 399 2 := by have := h3.2.1; omega
          have hng := h4 b hb (by omega)
          have hc := hof b hb hbc
          have next : ∀ ζ, FrX μ ζ → ζ 413 = ν 413 → ζ 414 = ν 414 → B_X11_findsWay_119 G Q n ζ w goal v x k b := fun ζ g1 g2 g3 =>
            b_X11_findsWay_119 hg (b_X11_findsWay_120 hg ⟨fun _ => ⟨by omega, ihd (b + 1) ζ (by omega) (by omega) g1 g2 g3⟩, fun g => absurd rfl g⟩)
          refine b_X11_findsWay_24 hg ⟨fun g => absurd rfl g, fun _ => ⟨by omega, by omega, fun _ => ?_, fun g => ?_⟩⟩
          · exact b_X11_findsWay_65 hg (b_X11_findsWay_68 hg ⟨fun _ => next ξ hX h13 h14, fun g => absurd (by decide) g⟩)
          · rw [x4] at g
            refine S_isMissed hg (fun g2 => ⟨fun g => absurd rfl g, fun _ => ?_⟩) (fun _ => ⟨fun _ => b_X11_findsWay_65 hg (b_X11_findsWay_68 hg ⟨fun _ => next ξ hX h13 h14, fun g => absurd (by decide) g⟩), fun g => absurd g (by decide)⟩)
            rw [x2] at g2
            have hE1 := hEc b x hb hbc g2
            refine S_endsAt hg (nd := nd) (cn := μ 399 2) (tk := tk) (by rw [x4]; exact hp) ⟨hb, hbc⟩ hw (by rw [x2]; exact hs) (by omega) (fun c t g0 g1 g2 g3 => by rw [x1]; exact hk c t g0 g1 g2 g3) ?_
            rw [x4, x2, ← hE1]
            refine b_X11_findsWay_68 hg ⟨fun _ => next ξ hX h13 h14, fun g3 => ⟨by omega, by omega, by omega, by rw [x9, hM]; omega, by rw [x9, hM]; omega, ?_⟩⟩
            have hu := hEu b x (by omega)
            rw [x9, hM, hA, x4, show (M : Int) - k - 1 = r by omega]
            refine S_leadsThere hg (nd := nd) (tk := tk) (by rw [x9, x4]; exact hp) hw (by rw [x2]; exact hs) (by omega) (by omega) hgo (fun c t g0 g1 g2 g3 => by rw [x1]; exact hk c t g0 g1 g2 g3) (fun _ ζ hB => ⟨fun _ => next ζ (fun a g1 g2 g3 => by rw [hB a g1]; exact hX a g1 g2 g3) (by rw [hB 413 (by decide)]; exact h13) (by rw [hB 414 (by decide)]; exact h14), fun g => absurd rfl g⟩) (fun g4 => absurd ?_ hng)
            rw [x9, x4, x2, hEE, Int.toNat_natCast] at g4
            refine ⟨hb, hbc, ?_, by omega, g4⟩
            unfold Fc cf
            rw [Int.add_zero]
            exact g
      exact inner c.toNat 0 ν (by omega) (by omega) hF rfl rfl
  refine m_X11_findsWay hg (outer M 0 node t [] μ (by omega) (fun _ _ _ _ => rfl) rfl ht.1 ht.2 hH (fun l hl => hl) (fun l => rfl) rfl (fun j hj => by omega))
end Way
