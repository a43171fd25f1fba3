-- ways, their first arrivals laid out by the number of contacts, and the best of them: numbers alone
/-- the first place with p from t on, among k places -/
noncomputable def firstP (p : Int → Prop) (t : Int) : Nat → Option Int
  | 0 => none
  | k + 1 => @ite _ (p t) (Classical.propDecidable _) (some t) (firstP p (t + 1) k)
theorem firstP_some {p : Int → Prop} {k : Nat} : ∀ {t r : Int}, firstP p t k = some r → t ≤ r ∧ r < t + k ∧ p r ∧ ∀ i, t ≤ i → i < r → ¬ p i := by
  induction k with
  | zero => intro t r h; cases h
  | succ k ih =>
    intro t r h
    unfold firstP at h
    by_cases hp : p t
    · rw [if_pos hp] at h
      cases h
      exact ⟨by omega, by omega, hp, fun i h1 h2 => by omega⟩
    · rw [if_neg hp] at h
      obtain ⟨h1, h2, h3, h4⟩ := ih h
      refine ⟨by omega, by omega, h3, fun i h5 h6 => ?_⟩
      by_cases e : i = t
      · rw [e]; exact hp
      · exact h4 i (by omega) h6
theorem firstP_none {p : Int → Prop} {k : Nat} : ∀ {t : Int}, firstP p t k = none → ∀ i, t ≤ i → i < t + k → ¬ p i := by
  induction k with
  | zero => intro t _ i h1 h2; omega
  | succ k ih =>
    intro t h i h1 h2
    unfold firstP at h
    by_cases hp : p t
    · rw [if_pos hp] at h
      cases h
    · rw [if_neg hp] at h
      by_cases e : i = t
      · rw [e]; exact hp
      · exact ih h i (by omega) (by omega)
/-- it is the first one: so it is the one that is found -/
theorem firstP_is {p : Int → Prop} {k : Nat} {t r : Int} (h1 : t ≤ r) (h2 : r < t + k) (h3 : p r) (h4 : ∀ i, t ≤ i → i < r → ¬ p i) : firstP p t k = some r := by
  cases h : firstP p t k with
  | none => exact absurd h3 (firstP_none h r h1 h2)
  | some q =>
    obtain ⟨g1, g2, g3, g4⟩ := firstP_some h
    have : ¬ r < q := fun e => g4 r h1 e h3
    have : ¬ q < r := fun e => h4 q g1 e g3
    rw [show q = r by omega]
theorem firstP_isnone {p : Int → Prop} {k : Nat} {t : Int} (h : ∀ i, t ≤ i → i < t + k → ¬ p i) : firstP p t k = none := by
  cases e : firstP p t k with
  | none => rfl
  | some q =>
    obtain ⟨g1, g2, g3, g4⟩ := firstP_some e
    exact absurd g3 (h q g1 g2)
section Route
variable {cn : Int} {F T : Int → Int} {E : Int → Int → Int}
/-- a way: contacts one behind the other, from a node at a time to a node at a time -/
def WK (cn : Int) (F T : Int → Int) (E : Int → Int → Int) : List Int → Int → Int → Int → Int → Prop
  | [], v, t, g, a => v = g ∧ t = a
  | c :: l, v, t, g, a => (0 ≤ c ∧ c < cn ∧ F c = v ∧ E c t < 9999) ∧ WK cn F T E l (T c) (E c t) g a
theorem WK_app {l : List Int} {c : Int} : ∀ {v t g a : Int}, WK cn F T E (l ++ [c]) v t g a ↔ ∃ b, WK cn F T E l v t (F c) b ∧ 0 ≤ c ∧ c < cn ∧ E c b < 9999 ∧ T c = g ∧ E c b = a := by
  induction l with
  | nil =>
    intro v t g a
    constructor
    · rintro ⟨⟨h1, h2, h3, h4⟩, h5, h6⟩
      exact ⟨t, ⟨h3.symm, rfl⟩, h1, h2, h4, h5, h6⟩
    · rintro ⟨b, ⟨h1, h2⟩, h3, h4, h5, h6, h7⟩
      subst h2
      exact ⟨⟨h3, h4, h1.symm, h5⟩, h6, h7⟩
  | cons d l ih =>
    intro v t g a
    constructor
    · rintro ⟨h1, h2⟩
      obtain ⟨b, h3, h4⟩ := ih.mp h2
      exact ⟨b, ⟨h1, h3⟩, h4⟩
    · rintro ⟨b, ⟨h1, h3⟩, h4⟩
      exact ⟨h1, ih.mpr ⟨b, h3, h4⟩⟩
theorem WK_cat {l m : List Int} : ∀ {v t u b g a : Int}, WK cn F T E l v t u b → WK cn F T E m u b g a → WK cn F T E (l ++ m) v t g a := by
  induction l with
  | nil => rintro v t u b g a ⟨rfl, rfl⟩ h; exact h
  | cons d l ih => rintro v t u b g a ⟨h1, h2⟩ h; exact ⟨h1, ih h2 h⟩
theorem WK_split {l m : List Int} : ∀ {v t g a : Int}, WK cn F T E (l ++ m) v t g a → ∃ u b, WK cn F T E l v t u b ∧ WK cn F T E m u b g a := by
  induction l with
  | nil => intro v t g a h; exact ⟨v, t, ⟨rfl, rfl⟩, h⟩
  | cons d l ih =>
    rintro v t g a ⟨h1, h2⟩
    obtain ⟨u, b, h3, h4⟩ := ih h2
    exact ⟨u, b, ⟨h1, h3⟩, h4⟩
theorem WK_det {l : List Int} : ∀ {v t g a g' a' : Int}, WK cn F T E l v t g a → WK cn F T E l v t g' a' → g = g' ∧ a = a' := by
  induction l with
  | nil => rintro v t g a g' a' ⟨rfl, rfl⟩ ⟨rfl, rfl⟩; exact ⟨rfl, rfl⟩
  | cons d l ih => rintro v t g a g' a' ⟨_, h⟩ ⟨_, h'⟩; exact ih h h'
/-- the later one sets out, the later it is there -/
def monoE (E : Int → Int → Int) : Prop := ∀ c t t' : Int, t ≤ t' → E c t ≤ E c t'
theorem WK_mono (hm : monoE E) {l : List Int} : ∀ {v t t' g a : Int}, t' ≤ t → WK cn F T E l v t g a → ∃ a', a' ≤ a ∧ WK cn F T E l v t' g a' := by
  induction l with
  | nil => rintro v t t' g a h ⟨rfl, rfl⟩; exact ⟨t', h, rfl, rfl⟩
  | cons c l ih =>
    rintro v t t' g a h ⟨⟨h1, h2, h3, h4⟩, h5⟩
    have h6 := hm c t' t h
    obtain ⟨a', h7, h8⟩ := ih h6 h5
    exact ⟨a', h7, ⟨h1, h2, h3, by omega⟩, h8⟩
def upE (E : Int → Int → Int) : Prop := ∀ c t : Int, E c t < 9999 → t < E c t
theorem WK_le (hu : upE E) {l : List Int} : ∀ {v t g a : Int}, WK cn F T E l v t g a → t + l.length ≤ a := by
  induction l with
  | nil => rintro v t g a ⟨rfl, rfl⟩; simp
  | cons c l ih =>
    rintro v t g a ⟨⟨h1, h2, h3, h4⟩, h5⟩
    have h6 := ih h5
    have h7 := hu c t h4
    rw [List.length_cons]
    omega
theorem WK_lt {l : List Int} : ∀ {v t g a : Int}, t < 9999 → WK cn F T E l v t g a → a < 9999 := by
  induction l with
  | nil => rintro v t g a h ⟨rfl, rfl⟩; exact h
  | cons c l ih => rintro v t g a h ⟨⟨h1, h2, h3, h4⟩, h5⟩; exact ih h4 h5
/-- one column of first arrivals, out of the one before: the first n contacts are looked at -/
noncomputable def dpC (F T : Int → Int) (E : Int → Int → Int) (d : Int → Int) : Nat → Int → Int
  | 0, v => d v
  | c + 1, v => if T c = v ∧ d (F c) < 9999 ∧ E c (d (F c)) < dpC F T E d c v then E c (d (F c)) else dpC F T E d c v
noncomputable def dpP (cn : Int) (F T : Int → Int) (E : Int → Int → Int) (v t : Int) : Nat → Int → Int
  | 0 => fun u => if u = v then t else 9999
  | j + 1 => dpC F T E (dpP cn F T E v t j) cn.toNat
theorem dpC_le (d : Int → Int) (n : Nat) (u : Int) : dpC F T E d n u ≤ d u := by
  induction n with
  | zero => exact Int.le_refl _
  | succ n ih =>
    unfold dpC
    split <;> omega
theorem dpC_le2 (d : Int → Int) (n : Nat) (u : Int) {c : Nat} (hc : c < n) (h1 : T c = u) (h2 : d (F c) < 9999) : dpC F T E d n u ≤ E c (d (F c)) := by
  induction n with
  | zero => omega
  | succ n ih =>
    by_cases e : c = n
    · subst e
      unfold dpC
      split
      · omega
      · rename_i h
        have : ¬ E c (d (F c)) < dpC F T E d c u := fun q => h ⟨h1, h2, q⟩
        omega
    · have := ih (by omega)
      unfold dpC
      split <;> omega
theorem dpC_is (d : Int → Int) (n : Nat) (u : Int) : dpC F T E d n u = d u ∨ ∃ c : Nat, c < n ∧ T c = u ∧ d (F c) < 9999 ∧ dpC F T E d n u = E c (d (F c)) := by
  induction n with
  | zero => exact Or.inl rfl
  | succ n ih =>
    by_cases h : T n = u ∧ d (F n) < 9999 ∧ E n (d (F n)) < dpC F T E d n u
    · refine Or.inr ⟨n, by omega, h.1, h.2.1, ?_⟩
      rw [dpC, if_pos h]
    · rw [dpC, if_neg h]
      rcases ih with h1 | ⟨c, h1, h2⟩
      · exact Or.inl h1
      · exact Or.inr ⟨c, by omega, h2⟩
theorem dpP_le (j : Nat) {v t u : Int} : dpP cn F T E v t (j + 1) u ≤ dpP cn F T E v t j u := dpC_le _ _ _
theorem dpP_mono {v t u : Int} {i j : Nat} (h : i ≤ j) : dpP cn F T E v t j u ≤ dpP cn F T E v t i u := by
  induction h with
  | refl => exact Int.le_refl _
  | step _ ih => exact Int.le_trans (dpP_le _) ih
/-- no way of at most j contacts is there earlier -/
theorem dpP_of (hm : monoE E) : ∀ (j : Nat) (l : List Int) {v t g a : Int}, t < 9999 → l.length ≤ j → WK cn F T E l v t g a → dpP cn F T E v t j g ≤ a := by
  intro j
  induction j with
  | zero =>
    intro l v t g a ht hl h
    have : l = [] := List.length_eq_zero_iff.mp (by omega)
    subst this
    obtain ⟨rfl, rfl⟩ := h
    show (if v = v then t else 9999) ≤ t
    rw [if_pos rfl]
    exact Int.le_refl _
  | succ j ih =>
    intro l v t g a ht hl h
    by_cases e : l = []
    · subst e
      exact Int.le_trans (dpP_le j) (ih [] ht (by simp) h)
    · obtain ⟨m, c, rfl⟩ : ∃ m c, l = m ++ [c] := ⟨l.dropLast, l.getLast e, (List.dropLast_concat_getLast e).symm⟩
      rw [List.length_append] at hl
      obtain ⟨b, h1, h2, h3, h4, h5, h6⟩ := WK_app.mp h
      have hb : b < 9999 := WK_lt ht h1
      have h7 := ih m ht (by simp at hl; omega) h1
      have h8 := hm c _ _ h7
      have hc : ((c.toNat : Nat) : Int) = c := a_toNat h2
      have h9 := dpC_le2 (F := F) (T := T) (E := E) (dpP cn F T E v t j) cn.toNat g (c := c.toNat) (by omega) (by rw [hc]; exact h5) (by rw [hc]; omega)
      rw [hc] at h9
      exact Int.le_trans h9 (by omega)
/-- what stands there is the arrival of a way -/
theorem dpP_is : ∀ (j : Nat) {v t g : Int}, dpP cn F T E v t j g < 9999 → ∃ l : List Int, l.length ≤ j ∧ WK cn F T E l v t g (dpP cn F T E v t j g) := by
  intro j
  induction j with
  | zero =>
    intro v t g h
    by_cases e : g = v
    · subst e
      refine ⟨[], by simp, rfl, ?_⟩
      show t = if g = g then t else 9999
      rw [if_pos rfl]
    · exfalso
      have : dpP cn F T E v t 0 g = 9999 := if_neg e
      omega
  | succ j ih =>
    intro v t g h
    rcases dpC_is (F := F) (T := T) (E := E) (dpP cn F T E v t j) cn.toNat g with h1 | ⟨c, h1, h2, h3, h4⟩
    · have h1 : dpP cn F T E v t (j + 1) g = dpP cn F T E v t j g := h1
      rw [h1] at h ⊢
      obtain ⟨l, h2, h3⟩ := ih h
      exact ⟨l, by omega, h3⟩
    · have h4 : dpP cn F T E v t (j + 1) g = E c (dpP cn F T E v t j (F c)) := h4
      obtain ⟨l, h5, h6⟩ := ih h3
      refine ⟨l ++ [(c : Int)], by simp; omega, WK_app.mpr ⟨_, h6, by omega, by omega, by omega, h2, h4.symm⟩⟩
/-- of two rows of the same length, the one that comes first (or both are one) -/
def lexB : List Int → List Int → Prop
  | [], _ => True
  | _ :: _, [] => False
  | c :: l, d :: m => c < d ∨ (c = d ∧ lexB l m)
theorem lexB_rf : ∀ l : List Int, lexB l l
  | [] => trivial
  | _ :: l => Or.inr ⟨rfl, lexB_rf l⟩
theorem lexB_as : ∀ l m : List Int, lexB l m → lexB m l → l.length = m.length → l = m
  | [], [], _, _, _ => rfl
  | [], _ :: _, _, _, h => by simp at h
  | _ :: _, [], _, _, h => by simp at h
  | c :: l, d :: m, h1, h2, h => by
    rcases h1 with h1 | ⟨rfl, h1⟩
    · rcases h2 with h2 | ⟨rfl, h2⟩
      · omega
      · omega
    · rcases h2 with h2 | ⟨_, h2⟩
      · omega
      · rw [lexB_as l m h1 h2 (by simpa using h)]
/-- the best way of at most five contacts -/
def BestW (cn : Int) (F T : Int → Int) (E : Int → Int → Int) (v t g : Int) (l : List Int) (a : Int) : Prop :=
  WK cn F T E l v t g a ∧ l.length ≤ 5 ∧ ∀ (m : List Int) (b : Int), WK cn F T E m v t g b → m.length ≤ 5 → a < b ∨ (a = b ∧ (l.length < m.length ∨ (l.length = m.length ∧ lexB l m)))
theorem BestW_one {v t g : Int} {l m : List Int} {a b : Int} (h1 : BestW cn F T E v t g l a) (h2 : BestW cn F T E v t g m b) : l = m ∧ a = b := by
  have h3 := h1.2.2 m b h2.1 h2.2.1
  have h4 := h2.2.2 l a h1.1 h1.2.1
  have e : a = b := by omega
  refine ⟨?_, e⟩
  rcases h3 with h3 | ⟨_, h3 | ⟨h5, h3⟩⟩
  · omega
  · rcases h4 with h4 | ⟨_, h4 | ⟨h6, h4⟩⟩ <;> omega
  · rcases h4 with h4 | ⟨_, h4 | ⟨h6, h4⟩⟩
    · omega
    · omega
    · exact lexB_as l m h3 h4 h5
end Route
