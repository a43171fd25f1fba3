-- the model's small methods, in pure words
def set1 (f : Int → Int) (k v : Int) : Int → Int := fun j => if j = k then v else f j
theorem set1_at (f : Int → Int) (k v : Int) : set1 f k v k = v := if_pos rfl
theorem set1_ne {f : Int → Int} {k v j : Int} (h : j ≠ k) : set1 f k v j = f j := if_neg h
theorem up_row (μ : Mem) (a k v : Int) : up μ a k v a = set1 (μ a) k v := up_at μ a k v
/-- what a bundle holds -/
def it (s : Int → Int) (b w : Int) : Int := s (3 + 20 * b + w)
/-- a contact's part -/
def cf (of : Int → Int) (c k : Int) : Int := of (6 * c + k)
/-- the ticks that so much takes -/
def tkD (of : Int → Int) (w c : Int) : Int := (w + cf of c 4 - 1) / cf of c 4
def arrT (of s : Int → Int) (b c t : Int) : Int := t + tkD of (it s b 0) c + cf of c 5
def hopC (s : Int → Int) (b k : Int) : Int := it s b (10 + 2 * k)
def hopB (s : Int → Int) (b k : Int) : Int := it s b (10 + 2 * k + 1)
noncomputable def leadsP (of s : Int → Int) (b : Int) : Int :=
  if it s b 9 ≤ 0 then (if it s b 7 = -9 then it s b 4 else cf of (it s b 7) 1) else cf of (it s b (10 + 2 * it s b 9 - 2)) 1
noncomputable def stateP (of s : Int → Int) (b : Int) : Int :=
  if it s b 7 = -9 ∧ it s b 4 = it s b 1 then 2 else if it s b 5 = 1 then 4 else if it s b 2 < s 0 then 3 else if leadsP of s b = it s b 1 then 1 else 0
noncomputable def countP (of s : Int → Int) (st : Int) : Nat → Int
  | 0 => 0
  | k + 1 => countP of s st k + (if stateP of s k = st then 1 else 0)
/-- whether a contact is missed -/
def msB (m c : Int) : Prop := iAnd (iShr m c) 1 = 1
/-- a plan as it may be -/
def PW (nd cn : Int) (of : Int → Int) : Prop := 2 ≤ nd ∧ nd ≤ 6 ∧ 0 ≤ cn ∧ cn ≤ 8 ∧ ∀ c, 0 ≤ c → c < cn → 0 ≤ cf of c 0 ∧ cf of c 0 < nd ∧ 0 ≤ cf of c 1 ∧ cf of c 1 < nd ∧ cf of c 0 ≠ cf of c 1 ∧ 0 ≤ cf of c 2 ∧ cf of c 2 ≤ 98 ∧ cf of c 2 < cf of c 3 ∧ cf of c 3 ≤ 99 ∧ 1 ≤ cf of c 4 ∧ cf of c 4 ≤ 9 ∧ 0 ≤ cf of c 5 ∧ cf of c 5 ≤ 9
/-- a bundle as it may be: its numbers in range -/
def BR (nd cn : Int) (of s : Int → Int) (b : Int) : Prop :=
  1 ≤ it s b 0 ∧ it s b 0 ≤ 20 ∧ 0 ≤ it s b 1 ∧ it s b 1 < nd ∧ 0 ≤ it s b 2 ∧ it s b 2 ≤ 99 ∧ 0 ≤ it s b 3 ∧ it s b 3 ≤ 2 ∧ 0 ≤ it s b 4 ∧ it s b 4 < nd ∧ (it s b 5 = 0 ∨ it s b 5 = 1) ∧ (it s b 6 = 0 ∨ it s b 6 = 1) ∧
  (it s b 7 = -9 ∨ (0 ≤ it s b 7 ∧ it s b 7 < cn)) ∧ 0 ≤ it s b 9 ∧ it s b 9 ≤ 5 ∧ (∀ k, 0 ≤ k → k < it s b 9 → 0 ≤ hopC s b k ∧ hopC s b k < cn ∧ 0 ≤ hopB s b k ∧ hopB s b k + tkD of (it s b 0) (hopC s b k) ≤ 99) ∧ (it s b 7 ≠ -9 → 0 ≤ it s b 8 ∧ it s b 8 + tkD of (it s b 0) (it s b 7) ≤ 99)
theorem tkD_le {of : Int → Int} {w c : Int} (h1 : 1 ≤ w) (h2 : w ≤ 20) (h3 : 1 ≤ cf of c 4) (h4 : cf of c 4 ≤ 9) : 1 ≤ tkD of w c ∧ tkD of w c ≤ 20 := by
  unfold tkD
  generalize cf of c 4 = r at *
  have h : r = 1 ∨ r = 2 ∨ r = 3 ∨ r = 4 ∨ r = 5 ∨ r = 6 ∨ r = 7 ∨ r = 8 ∨ r = 9 := by omega
  rcases h with rfl | rfl | rfl | rfl | rfl | rfl | rfl | rfl | rfl <;> omega
section Model
variable {G : GT} {n : Nat} {μ : Mem}
theorem S_in (hg : gx G = FX) {Q : Int → Nat → Mem → Prop} {v a b : Int} (q0 : ¬ (a ≤ v ∧ v ≤ b) → Q 0 n μ) (q1 : a ≤ v ∧ v ≤ b → Q 1 n μ) : CI G Y_X11_in [.inl v, .inl a, .inl b] n μ Q := by
  refine m_X11_in hg ⟨fun c => q0 (by omega), fun c => ⟨fun d => q0 (by omega), fun d => q1 (by omega)⟩⟩
theorem S_isNode (hg : gx G = FX) {Q : Int → Nat → Mem → Prop} {v : Int} (hn : 2 ≤ μ 399 1 ∧ μ 399 1 ≤ 6) (q0 : ¬ (0 ≤ v ∧ v < μ 399 1) → Q 0 n μ) (q1 : 0 ≤ v ∧ v < μ 399 1 → Q 1 n μ) : CI G Y_X11_isNode [.inr 399, .inl v] n μ Q := by
  refine m_X11_isNode hg ⟨by omega, S_in hg (fun c => ⟨by omega, q0 (by omega)⟩) (fun c => ⟨by omega, q1 (by omega)⟩)⟩
theorem S_isContact (hg : gx G = FX) {Q : Int → Nat → Mem → Prop} {v : Int} (hn : 0 ≤ μ 399 2 ∧ μ 399 2 ≤ 8) (q0 : ¬ (0 ≤ v ∧ v < μ 399 2) → Q 0 n μ) (q1 : 0 ≤ v ∧ v < μ 399 2 → Q 1 n μ) : CI G Y_X11_isContact [.inr 399, .inl v] n μ Q := by
  refine m_X11_isContact hg ⟨by omega, S_in hg (fun c => ⟨by omega, q0 (by omega)⟩) (fun c => ⟨by omega, q1 (by omega)⟩)⟩
theorem S_isBundle (hg : gx G = FX) {Q : Int → Nat → Mem → Prop} {v : Int} (hn : 0 ≤ μ 402 2 ∧ μ 402 2 ≤ 8) (q0 : ¬ (0 ≤ v ∧ v < μ 402 2) → Q 0 n μ) (q1 : 0 ≤ v ∧ v < μ 402 2 → Q 1 n μ) : CI G Y_X11_isBundle [.inr 399, .inl v] n μ Q := by
  refine m_X11_isBundle hg ⟨by omega, S_in hg (fun c => ⟨by omega, q0 (by omega)⟩) (fun c => ⟨by omega, q1 (by omega)⟩)⟩
theorem S_isMissed (hg : gx G = FX) {Q : Int → Nat → Mem → Prop} {c : Int} (q0 : ¬ msB (μ 402 1) c → Q 0 n μ) (q1 : msB (μ 402 1) c → Q 1 n μ) : CI G Y_X11_isMissed [.inr 399, .inl c] n μ Q :=
  m_X11_isMissed hg ⟨q0, q1⟩
theorem S_at (hg : gx G = FX) {Q : Int → Nat → Mem → Prop} {b : Int} (h : -100 ≤ b ∧ b ≤ 100) (q : Q (3 + 20 * b) n μ) : CI G Y_X11_at [.inl b] n μ Q :=
  m_X11_at hg ⟨by omega, by omega, q⟩
theorem S_its (hg : gx G = FX) {Q : Int → Nat → Mem → Prop} {b w : Int} (h : 0 ≤ b ∧ b ≤ 7 ∧ 0 ≤ w ∧ w ≤ 19) (q : Q (it (μ 402) b w) n μ) : CI G Y_X11_its [.inr 399, .inl b, .inl w] n μ Q :=
  m_X11_its hg (S_at hg (by omega) ⟨by omega, by omega, q⟩)
theorem S_ticks (hg : gx G = FX) {Q : Int → Nat → Mem → Prop} {w c : Int} (h : 0 ≤ c ∧ c ≤ 7) (hw : 1 ≤ w ∧ w ≤ 20) (hr : 1 ≤ cf (μ 400) c 4 ∧ cf (μ 400) c 4 ≤ 9) (q : Q (tkD (μ 400) w c) n μ) : CI G Y_X11_ticks [.inr 399, .inl w, .inl c] n μ Q := by
  unfold cf at hr
  exact m_X11_ticks hg ⟨by omega, by omega, by omega, by omega, by omega, by omega, q⟩
theorem S_arrival (hg : gx G = FX) {Q : Int → Nat → Mem → Prop} {b c t : Int} (hb : 0 ≤ b ∧ b ≤ 7) (hc : 0 ≤ c ∧ c ≤ 7) (hw : 1 ≤ it (μ 402) b 0 ∧ it (μ 402) b 0 ≤ 20) (hr : 1 ≤ cf (μ 400) c 4 ∧ cf (μ 400) c 4 ≤ 9) (hl : 0 ≤ cf (μ 400) c 5 ∧ cf (μ 400) c 5 ≤ 9) (ht : -1000 ≤ t ∧ t ≤ 1000) (q : Q (arrT (μ 400) (μ 402) b c t) n μ) : CI G Y_X11_arrival [.inr 399, .inl b, .inl c, .inl t] n μ Q := by
  have h := tkD_le hw.1 hw.2 hr.1 hr.2
  refine m_X11_arrival hg (S_its hg (by omega) (S_ticks hg hc hw hr ⟨by omega, by omega, by omega, by omega, ?_, q⟩))
  unfold cf at hl
  omega
theorem S_isOn (hg : gx G = FX) {Q : Int → Nat → Mem → Prop} {b : Int} (hb : 0 ≤ b ∧ b ≤ 7) (q0 : it (μ 402) b 7 = -9 → Q 0 n μ) (q1 : ¬ it (μ 402) b 7 = -9 → Q 1 n μ) : CI G Y_X11_isOn [.inr 399, .inl b] n μ Q :=
  m_X11_isOn hg (S_its hg (by omega) ⟨q0, q1⟩)
theorem S_leads (hg : gx G = FX) {Q : Int → Nat → Mem → Prop} {nd cn b : Int} (hb : 0 ≤ b ∧ b ≤ 7) (hp : PW nd cn (μ 400)) (hr : BR nd cn (μ 400) (μ 402) b) (q : Q (leadsP (μ 400) (μ 402) b) n μ) : CI G Y_X11_leads [.inr 399, .inl b] n μ Q := by
  obtain ⟨-, -, hc0, hc8, -⟩ := hp
  obtain ⟨-, -, -, -, -, -, -, -, -, -, -, -, hon, hh0, hh5, hh, -⟩ := hr
  unfold leadsP at q
  refine m_X11_leads hg (S_its hg (by omega) ⟨fun c => ?_, fun c => ?_⟩)
  · rw [if_pos c] at q
    refine S_isOn hg hb (fun d => ⟨fun _ => ?_, fun e => absurd rfl e⟩) (fun d => ⟨fun e => absurd e (by decide), fun _ => ?_⟩)
    · rw [if_pos d] at q
      exact S_its hg (by omega) q
    · rw [if_neg d] at q
      exact S_its hg (by omega) ⟨by omega, by omega, by omega, q⟩
  · rw [if_neg c] at q
    have h1 := hh (it (μ 402) b 9 - 1) (by omega) (by omega)
    unfold hopC at h1
    rw [show 10 + 2 * (it (μ 402) b 9 - 1) = 10 + 2 * it (μ 402) b 9 - 2 by omega] at h1
    exact S_its hg (by omega) ⟨by omega, by omega, by omega, S_its hg (by omega) ⟨by omega, by omega, by omega, q⟩⟩
theorem S_stateOf (hg : gx G = FX) {Q : Int → Nat → Mem → Prop} {nd cn b : Int} (hb : 0 ≤ b ∧ b ≤ 7) (hp : PW nd cn (μ 400)) (hr : BR nd cn (μ 400) (μ 402) b) (q : Q (stateP (μ 400) (μ 402) b) n μ) : CI G Y_X11_stateOf [.inr 399, .inl b] n μ Q := by
  have h25 : ¬ (it (μ 402) b 7 = -9 ∧ it (μ 402) b 4 = it (μ 402) b 1) → B_X11_stateOf_25 G Q n μ b := by
    intro hne
    unfold stateP at q
    rw [if_neg hne] at q
    refine b_X11_stateOf_25 hg (S_its hg (by omega) ⟨fun c => ?_, fun c => ?_⟩)
    · rw [if_neg c] at q
      refine S_its hg (by omega) ⟨fun d => ?_, fun d => ?_⟩
      · rw [if_neg (by omega)] at q
        refine S_leads hg hb hp hr (S_its hg (by omega) ⟨fun e => ?_, fun e => ?_⟩)
        · rw [if_neg e] at q
          exact q
        · rw [if_pos e] at q
          exact q
      · rw [if_pos (by omega)] at q
        exact q
    · rw [if_pos c] at q
      exact q
  refine m_X11_stateOf hg (S_isOn hg hb (fun c => ⟨fun e => absurd rfl e, fun _ => S_its hg (by omega) (S_its hg (by omega) ⟨fun d => h25 (fun e => d e.2), fun d => ?_⟩)⟩) (fun c => ⟨fun _ => h25 (fun e => c e.1), fun e => absurd e (by decide)⟩))
  unfold stateP at q
  rw [if_pos ⟨c, d⟩] at q
  exact q
end Model
