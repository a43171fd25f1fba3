-- ways that come back to no node; the best of those that have been looked at
section Simple
variable {cn : Int} {F T : Int → Int} {E : Int → Int → Int} {g : Int}
/-- a way that comes to no node of a set and to none twice -/
def SW (T : Int → Int) : List Int → (Int → Prop) → Prop
  | [], _ => True
  | c :: l, S => ¬ S (T c) ∧ SW T l (fun u => S u ∨ u = T c)
theorem SW_cong : ∀ {l : List Int} {S S' : Int → Prop}, (∀ u, S u ↔ S' u) → SW T l S → SW T l S' := by
  intro l
  induction l with
  | nil => intro _ _ _ _; trivial
  | cons c l ih =>
    intro S S' h q
    exact ⟨fun z => q.1 ((h _).mpr z), ih (fun u => by rw [h u]) q.2⟩
/-- it ends at no node of the set -/
theorem SW_end : ∀ {l : List Int} {S : Int → Prop} {v t a : Int}, l ≠ [] → WK cn F T E l v t g a → SW T l S → ¬ S g := by
  intro l
  induction l with
  | nil => intro _ _ _ _ h; exact absurd rfl h
  | cons c l ih =>
    intro S v t a _ hw hs
    by_cases e : l = []
    · subst e
      have : T c = g := hw.2.1
      rw [← this]
      exact hs.1
    · intro z
      exact ih e hw.2 hs.2 (Or.inl z)
/-- a way that comes back can be made shorter -/
theorem SW_cut (hm : monoE E) (hu : upE E) : ∀ {l : List Int} {S : Int → Prop} {v t a : Int}, WK cn F T E l v t g a → ¬ SW T l S →
    (∃ u m b, S u ∧ t ≤ b ∧ WK cn F T E m u b g a ∧ m.length < l.length) ∨ ∃ m b, WK cn F T E m v t g b ∧ b ≤ a ∧ m.length < l.length := by
  intro l
  induction l with
  | nil => intro _ _ _ _ _ h; exact absurd trivial h
  | cons c l ih =>
    intro S v t a hw hs
    have hup := hu c t hw.1.2.2.2
    by_cases c1 : S (T c)
    · exact Or.inl ⟨T c, l, E c t, c1, by omega, hw.2, Nat.lt_succ_self _⟩
    · have h2 : ¬ SW T l (fun u => S u ∨ u = T c) := fun z => hs ⟨c1, z⟩
      rcases ih hw.2 h2 with ⟨u, m, b, hSu, hb, hwm, hl⟩ | ⟨m, b, hwm, hb, hl⟩
      · rcases hSu with hSu | hSu
        · exact Or.inl ⟨u, m, b, hSu, by omega, hwm, Nat.lt_succ_of_lt hl⟩
        · rw [hSu] at hwm
          obtain ⟨a', ha', hw'⟩ := WK_mono hm hb hwm
          exact Or.inr ⟨c :: m, a', ⟨hw.1, hw'⟩, ha', Nat.succ_lt_succ hl⟩
      · exact Or.inr ⟨c :: m, b, ⟨hw.1, hwm⟩, hb, Nat.succ_lt_succ hl⟩
theorem SW_ex (hm : monoE E) (hu : upE E) : ∀ (k : Nat) {l : List Int} {v t a : Int}, l.length ≤ k → WK cn F T E l v t g a → ∃ m b, WK cn F T E m v t g b ∧ b ≤ a ∧ SW T m (fun u => u = v) ∧ (m = l ∨ m.length < l.length) := by
  intro k
  induction k with
  | zero =>
    intro l v t a hl hw
    have e : l = [] := List.eq_nil_of_length_eq_zero (by omega)
    subst e
    exact ⟨[], a, hw, Int.le_refl _, trivial, Or.inl rfl⟩
  | succ k ih =>
    intro l v t a hl hw
    by_cases c : SW T l (fun u => u = v)
    · exact ⟨l, a, hw, Int.le_refl _, c, Or.inl rfl⟩
    · have shorter : ∃ m b, WK cn F T E m v t g b ∧ b ≤ a ∧ m.length < l.length := by
        rcases SW_cut hm hu hw c with ⟨u, m, b, e, hb, hwm, hl'⟩ | h
        · rw [e] at hwm
          obtain ⟨a', ha', hw'⟩ := WK_mono hm hb hwm
          exact ⟨m, a', hw', ha', hl'⟩
        · exact h
      obtain ⟨m, b, hwm, hb, hl'⟩ := shorter
      obtain ⟨m', b', h1, h2, h3, h4⟩ := ih (show m.length ≤ k by omega) hwm
      refine ⟨m', b', h1, by omega, h3, Or.inr ?_⟩
      rcases h4 with h4 | h4
      · rw [h4]; exact hl'
      · omega
/-- simple ways of at most k contacts from a node, that keep out of a set -/
def SX (cn : Int) (F T : Int → Int) (E : Int → Int → Int) (g : Int) (k : Nat) (S : Int → Prop) (v t : Int) (m : List Int) : Prop := m ≠ [] ∧ m.length ≤ k ∧ SW T m S ∧ ∃ a, WK cn F T E m v t g a
theorem SX_cons {k : Nat} {S : Int → Prop} {v t c : Int} {m : List Int} : SX cn F T E g (k + 1) S v t (c :: m) ↔ (0 ≤ c ∧ c < cn ∧ F c = v ∧ E c t < 9999 ∧ ¬ S (T c)) ∧ ((T c = g ∧ m = []) ∨ (T c ≠ g ∧ SX cn F T E g k (fun u => S u ∨ u = T c) (T c) (E c t) m)) := by
  constructor
  · rintro ⟨-, hl, hs, a, hw⟩
    refine ⟨⟨hw.1.1, hw.1.2.1, hw.1.2.2.1, hw.1.2.2.2, hs.1⟩, ?_⟩
    by_cases e : m = []
    · subst e
      exact Or.inl ⟨hw.2.1, rfl⟩
    · refine Or.inr ⟨fun z => SW_end e hw.2 hs.2 (Or.inr z.symm), e, by simpa using hl, hs.2, a, hw.2⟩
  · rintro ⟨⟨h1, h2, h3, h4, h5⟩, h | h⟩
    · obtain ⟨e, rfl⟩ := h
      exact ⟨by simp, by simp, ⟨h5, trivial⟩, E c t, ⟨h1, h2, h3, h4⟩, e, rfl⟩
    · obtain ⟨-, -, hl, hs, a, hw⟩ := h
      exact ⟨by simp, by simpa using hl, ⟨h5, hs⟩, a, ⟨h1, h2, h3, h4⟩, hw⟩
/-- the best of those that have been looked at: where there is none, 1000 -/
def Opt (cn : Int) (F T : Int → Int) (E : Int → Int → Int) (v t g : Int) (X : List Int → Prop) (B : Int) (L : List Int) : Prop :=
  ((∀ m, ¬ X m) ∧ B = 1000 ∧ L = []) ∨ (X L ∧ L ≠ [] ∧ WK cn F T E L v t g B ∧ ∀ m b, X m → WK cn F T E m v t g b → B < b ∨ (B = b ∧ (L.length < m.length ∨ (L.length = m.length ∧ lexB L m))))
theorem Opt_cong {v t B : Int} {X X' : List Int → Prop} {L : List Int} (h : ∀ m, X m ↔ X' m) (q : Opt cn F T E v t g X B L) : Opt cn F T E v t g X' B L := by
  rcases q with ⟨q1, q2, q3⟩ | ⟨q1, q2, q3, q4⟩
  · exact Or.inl ⟨fun m z => q1 m ((h m).mpr z), q2, q3⟩
  · exact Or.inr ⟨(h L).mp q1, q2, q3, fun m b z w => q4 m b ((h m).mpr z) w⟩
theorem Opt_skip {v t B : Int} {X Y : List Int → Prop} {L : List Int} (q : Opt cn F T E v t g X B L) (h : ∀ m, Y m → ∃ b, WK cn F T E m v t g b ∧ B < b ∧ b < 1000) : Opt cn F T E v t g (fun m => X m ∨ Y m) B L := by
  rcases q with ⟨q1, q2, q3⟩ | ⟨q1, q2, q3, q4⟩
  · refine Or.inl ⟨fun m z => ?_, q2, q3⟩
    rcases z with z | z
    · exact q1 m z
    · obtain ⟨b, -, h2, h3⟩ := h m z
      omega
  · refine Or.inr ⟨Or.inl q1, q2, q3, fun m b z w => ?_⟩
    rcases z with z | z
    · exact q4 m b z w
    · obtain ⟨b', h1, h2, h3⟩ := h m z
      rw [(WK_det w h1).2]
      exact Or.inl h2
theorem Opt_new {v t B b0 : Int} {X : List Int → Prop} {L m0 : List Int} (q : Opt cn F T E v t g X B L) (hw : WK cn F T E m0 v t g b0) (hm : m0 ≠ []) (h1000 : b0 < 1000) (hb : b0 < B ∨ (b0 ≤ B ∧ m0.length < L.length)) : Opt cn F T E v t g (fun m => X m ∨ m = m0) b0 m0 := by
  refine Or.inr ⟨Or.inr rfl, hm, hw, fun m b z w => ?_⟩
  rcases z with z | z
  · rcases q with ⟨q1, q2, q3⟩ | ⟨q1, q2, q3, q4⟩
    · exact absurd z (q1 m)
    · rcases q4 m b z w with h | ⟨h, h'⟩
      · left; omega
      · rcases hb with hb | hb
        · left; omega
        · by_cases e : b0 = b
          · right
            refine ⟨e, Or.inl ?_⟩
            rcases h' with h' | ⟨h', -⟩ <;> omega
          · left; omega
  · subst z
    right
    exact ⟨(WK_det hw w).2, Or.inr ⟨rfl, lexB_rf _⟩⟩
theorem Opt_old {v t B b0 : Int} {X : List Int → Prop} {L m0 : List Int} (q : Opt cn F T E v t g X B L) (hw : WK cn F T E m0 v t g b0) (h1000 : b0 < 1000) (hb : ¬ b0 < B) (hl : ¬ m0.length < L.length) (hX : ∀ l, X l → l.length = m0.length → lexB l m0) : Opt cn F T E v t g (fun m => X m ∨ m = m0) B L := by
  rcases q with ⟨q1, q2, q3⟩ | ⟨q1, q2, q3, q4⟩
  · omega
  · refine Or.inr ⟨Or.inl q1, q2, q3, fun m b z w => ?_⟩
    rcases z with z | z
    · exact q4 m b z w
    · subst z
      have e := (WK_det hw w).2
      by_cases c : B < b
      · exact Or.inl c
      · right
        refine ⟨by omega, ?_⟩
        by_cases d : L.length < m.length
        · exact Or.inl d
        · exact Or.inr ⟨by omega, hX L q1 (by omega)⟩
/-- the best of all simple ways is the best of all -/
theorem Opt_best {v t B : Int} {X : List Int → Prop} {L : List Int} (hm : monoE E) (hu : upE E) (ht : t < 9999) (hv : v ≠ g) (hX : ∀ m, X m ↔ SX cn F T E g 5 (fun u => u = v) v t m) (q : Opt cn F T E v t g X B L) :
    (L = [] ∧ 9999 ≤ dpP cn F T E v t 5 g) ∨ (L ≠ [] ∧ BestW cn F T E v t g L B ∧ B = dpP cn F T E v t 5 g) := by
  have sx : ∀ (m : List Int) (b : Int), WK cn F T E m v t g b → m.length ≤ 5 → ∃ m' b', X m' ∧ WK cn F T E m' v t g b' ∧ b' ≤ b ∧ (m' = m ∨ m'.length < m.length) := by
    intro m b hw hl
    obtain ⟨m', b', h1, h2, h3, h4⟩ := SW_ex hm hu 5 hl hw
    have hne : m' ≠ [] := by
      intro e
      rw [e] at h1
      exact hv h1.1
    have hl' : m'.length ≤ 5 := by
      rcases h4 with h4 | h4
      · rw [h4]; exact hl
      · omega
    exact ⟨m', b', (hX m').mpr ⟨hne, hl', h3, b', h1⟩, h1, h2, h4⟩
  rcases q with ⟨q1, q2, q3⟩ | ⟨q1, q2, q3, q4⟩
  · left
    refine ⟨q3, ?_⟩
    by_cases c : dpP cn F T E v t 5 g < 9999
    · obtain ⟨l, hl, hw⟩ := dpP_is 5 c
      obtain ⟨m', b', h1, -⟩ := sx l _ hw hl
      exact absurd h1 (q1 m')
    · omega
  · right
    have hL := (hX L).mp q1
    have hb : BestW cn F T E v t g L B := by
      refine ⟨q3, hL.2.1, fun m b hw hl => ?_⟩
      obtain ⟨m', b', h1, h2, h3, h4⟩ := sx m b hw hl
      rcases q4 m' b' h1 h2 with h | ⟨h, h'⟩
      · left; omega
      · by_cases e : b' = b
        · right
          refine ⟨by omega, ?_⟩
          rcases h4 with h4 | h4
          · rw [← h4]; exact h'
          · left
            rcases h' with h' | ⟨h', -⟩ <;> omega
        · left; omega
    refine ⟨q2, hb, ?_⟩
    have h1 := dpP_of hm 5 L ht hL.2.1 q3
    have h2 := WK_lt ht q3
    obtain ⟨l, hl, hw⟩ := dpP_is (cn := cn) (F := F) (T := T) (E := E) (v := v) (t := t) (g := g) 5 (by omega)
    have h3 := hb.2.2 l _ hw hl
    omega
/-- a prefix before two rows -/
theorem lexB_pre : ∀ (p : List Int) {l m : List Int}, lexB l m → lexB (p ++ l) (p ++ m) := by
  intro p
  induction p with
  | nil => intro l m h; exact h
  | cons c p ih => intro l m h; exact Or.inr ⟨rfl, ih h⟩
end Simple
/-- the rows of a table are those of a way -/
def RwT (of s : Int → Int) (tk : Int → Int → Prop) (w : Int) (μ : Mem) (a : Int) (l : List Int) (t : Int) : Prop := ∀ k : Nat, k < l.length →
  μ a (4 * (k : Int) + 0) = l.getD k 0 ∧ μ a (4 * (k : Int) + 1) = (wayB of s tk w l t).getD k 0 ∧ μ a (4 * (k : Int) + 2) = (wayB of s tk w l t).getD k 0 + tkD of w (l.getD k 0) ∧ μ a (4 * (k : Int) + 3) = (wayB of s tk w l t).getD k 0 + tkD of w (l.getD k 0) + cf of (l.getD k 0) 5
theorem wayB_len {of s : Int → Int} {tk : Int → Int → Prop} {w : Int} : ∀ (l : List Int) (t : Int), (wayB of s tk w l t).length = l.length := by
  intro l
  induction l with
  | nil => intro t; rfl
  | cons c l ih => intro t; show (wayB of s tk w l _).length + 1 = l.length + 1; rw [ih]
theorem wayB_app {cn w out : Int} {of s : Int → Int} {tk : Int → Int → Prop} {c : Int} : ∀ (l : List Int) {v t u b : Int}, WK cn (Fc of) (Tc of) (EE cn of s tk w out) l v t u b → wayB of s tk w (l ++ [c]) t = wayB of s tk w l t ++ [(fbP of s tk c (tkD of w c) b).getD 9999] := by
  intro l
  induction l with
  | nil => intro v t u b h; rw [← h.2]; rfl
  | cons d l ih =>
    intro v t u b h
    have e : EE cn of s tk w out d t = endE of s tk w d t := by
      have h9 := h.1.2.2.2
      unfold EE at h9 ⊢
      by_cases hg : d = out ∨ msB (s 1) d ∨ ¬ (0 ≤ d ∧ d < cn)
      · rw [if_pos hg] at h9; omega
      · rw [if_neg hg]
    have h2 := h.2
    rw [e] at h2
    show _ :: wayB of s tk w (l ++ [c]) _ = _ :: (wayB of s tk w l _ ++ _)
    rw [ih h2]
theorem EE_end {cn w out c t : Int} {of s : Int → Int} {tk : Int → Int → Prop} (h1 : c ≠ out) (h2 : ¬ msB (s 1) c) (h3 : 0 ≤ c ∧ c < cn) : EE cn of s tk w out c t = endE of s tk w c t := if_neg (fun z => by rcases z with z | z | z; exact h1 z; exact h2 z; exact z h3)
