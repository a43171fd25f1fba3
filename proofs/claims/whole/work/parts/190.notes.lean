-- the model: counting, copying, noting
noncomputable def endP (of s : Int → Int) (b : Int) : Int :=
  if it s b 9 ≤ 0 then (if it s b 7 = -9 then -9 else arrT of s b (it s b 7) (it s b 8)) else arrT of s b (hopC s b (it s b 9 - 1)) (hopB s b (it s b 9 - 1))
/-- the rows 399 (but some of its fields) and one more may have changed -/
def Fr1 (a0 k0 : Int) (μ ν : Mem) : Prop := (∀ a, a ≠ 399 → a ≠ a0 → ν a = μ a) ∧ ∀ k, k ≠ k0 → ν 399 k = μ 399 k
theorem countP_le (of s : Int → Int) (st : Int) (k : Nat) : 0 ≤ countP of s st k ∧ countP of s st k ≤ k := by
  induction k with
  | zero => exact ⟨Int.le_refl _, Int.le_refl _⟩
  | succ k ih =>
    unfold countP
    by_cases c : stateP of s k = st
    · rw [if_pos c]; omega
    · rw [if_neg c]; omega
section Notes
variable {G : GT} {n : Nat} {μ : Mem}
theorem S_countOf (hg : gx G = FX) {Q : Int → Nat → Mem → Prop} {nd cn st : Int} (hp : PW nd cn (μ 400)) (hs : SR nd cn (μ 400) (μ 402)) (q : Q (countP (μ 400) (μ 402) st (μ 402 2).toNat) n μ) : CI G Y_X11_countOf [.inr 399, .inl st] n μ Q := by
  have hm8 := hs.2.2.2.1
  have hm0 := hs.2.2.1
  have key : ∀ (d k : Nat), k + d = (μ 402 2).toNat → B_X11_countOf_4 G Q n μ st (countP (μ 400) (μ 402) st k) k := by
    intro d
    induction d with
    | zero =>
      intro k e
      refine b_X11_countOf_4 hg ⟨fun _ => ?_, fun c => absurd (by omega) c⟩
      rw [show k = (μ 402 2).toNat from e]
      exact q
    | succ d ih =>
      intro k e
      have hle := countP_le (μ 400) (μ 402) st k
      refine b_X11_countOf_4 hg ⟨fun c => absurd c (by omega), fun _ => S_stateOf hg (nd := nd) (cn := cn) (by omega) hp (hs.2.2.2.2 k (by omega) (by omega)) ⟨fun c => ⟨by omega, by omega, ?_⟩, fun c => ⟨by omega, by omega, ?_⟩⟩⟩
      · have := ih (k + 1) (by omega)
        unfold countP at this
        rw [if_neg c] at this
        exact this
      · have := ih (k + 1) (by omega)
        unfold countP at this
        rw [if_pos c] at this
        exact this
  exact m_X11_countOf hg (key (μ 402 2).toNat 0 (by omega))
theorem S_lastEnd (hg : gx G = FX) {Q : Int → Nat → Mem → Prop} {nd cn b : Int} (hp : PW nd cn (μ 400)) (hb : 0 ≤ b ∧ b ≤ 7) (hB : BR nd cn (μ 400) (μ 402) b) (q : Q (endP (μ 400) (μ 402) b) n μ) : CI G Y_X11_lastEnd [.inr 399, .inl b] n μ Q := by
  obtain ⟨w1, w2, -, -, -, -, -, -, -, -, -, -, hon, h90, h95, hh, ho8⟩ := hB
  have hc8 := hp.2.2.2.1
  have hof := hp.2.2.2.2
  unfold endP at q
  refine m_X11_lastEnd hg (S_its hg (by omega) ⟨fun c => ?_, fun c => ?_⟩)
  · rw [if_pos c] at q
    refine S_isOn hg hb (fun d => ⟨fun _ => ?_, fun g => absurd rfl g⟩) (fun d => ⟨fun g => absurd g (by decide), fun _ => S_its hg (by omega) (S_its hg (by omega) ?_)⟩)
    · rw [if_pos d] at q
      exact q
    · rw [if_neg d] at q
      have h1 := hon.resolve_left d
      have h2 := hof _ h1.1 h1.2
      have h3 := ho8 d
      have hd := tkD_le w1 w2 h2.2.2.2.2.2.2.2.2.2.1 h2.2.2.2.2.2.2.2.2.2.2.1
      exact S_arrival hg hb (by omega) ⟨w1, w2⟩ (by omega) (by omega) (by omega) q
  · rw [if_neg c] at q
    have h1 := hh (it (μ 402) b 9 - 1) (by omega) (by omega)
    have h2 := hof _ h1.1 h1.2.1
    have hd := tkD_le w1 w2 h2.2.2.2.2.2.2.2.2.2.1 h2.2.2.2.2.2.2.2.2.2.2.1
    refine S_its hg (by omega) ⟨by omega, by omega, by omega, S_its hg (by omega) ⟨by omega, S_its hg (by omega) ?_⟩⟩
    simp only [hopC, hopB] at h1 h2 hd q
    rw [show 10 + 2 * (it (μ 402) b 9 - 1) = 10 + 2 * it (μ 402) b 9 - 2 by omega] at h1 h2 hd q
    exact S_arrival hg hb (by omega) ⟨w1, w2⟩ (by omega) (by omega) (by omega) q
theorem S_copies (hg : gx G = FX) {Q : Nat → Mem → Prop} {v1 v2 a b : Int} {N1 N2 : Nat} (o1 : St v1 20 N1) (o2 : St v2 20 N2) (hne : v1 ≠ v2) (ha : 0 ≤ a ∧ a + 163 ≤ N1 ∧ a < 100000) (hb : 0 ≤ b ∧ b + 163 ≤ N2 ∧ b < 100000)
    (q : ∀ ν, But v2 μ ν → (∀ j, 0 ≤ j → j < 163 → ν v2 (b + j) = μ v1 (a + j)) → (∀ j, ¬ (b ≤ j ∧ j < b + 163) → ν v2 j = μ v2 j) → Q n ν) : CV G Y_X11_copies [.inr 399, .inr v1, .inr v2, .inl a, .inl b] n μ Q := by
  have key : ∀ (d : Nat) (k : Int) (ν : Mem), k + d = 163 → 0 ≤ k → But v2 μ ν → (∀ j, 0 ≤ j → j < k → ν v2 (b + j) = μ v1 (a + j)) → (∀ j, ¬ (b ≤ j ∧ j < b + k) → ν v2 j = μ v2 j) → B_X11_copies_3 G Q n ν v1 v2 a b k := by
    intro d
    induction d with
    | zero =>
      intro k ν e k0 hB h1 h2
      have ek : k = 163 := by omega
      subst ek
      exact b_X11_copies_3 hg o1 o2 ⟨fun _ => q ν hB h1 h2, fun c => absurd (by omega) c⟩
    | succ d ih =>
      intro k ν e k0 hB h1 h2
      refine b_X11_copies_3 hg o1 o2 ⟨fun c => absurd c (by omega), fun _ => ⟨by omega, by omega, by omega, by omega, by omega, ih (k + 1) _ (by omega) (by omega) hB.up (fun j j0 j1 => ?_) (fun j hj => ?_)⟩⟩
      · by_cases ej : j = k
        · rw [ej, up_self, hB v1 hne]
        · rw [up_oth (by omega)]
          exact h1 j j0 (by omega)
      · rw [up_oth (by omega)]
        exact h2 j (by omega)
  exact m_X11_copies hg o1 o2 (key 163 0 μ (by omega) (by omega) But.rf (fun j j0 j1 => by omega) (fun j _ => rfl))
/-- what is noted -/
def NoteP (μ ν : Mem) (d : Int) : Prop := ν 399 8 = μ 399 8 + 1 - d ∧ (∀ k j, 0 ≤ k → k < μ 399 8 - d → 0 ≤ j → j < 163 → ν 403 (163 * k + j) = μ 403 (163 * (k + d) + j)) ∧ ∀ j, 0 ≤ j → j < 163 → ν 403 (163 * (μ 399 8 - d) + j) = μ 402 j
theorem S_notes (hg : gx G = FX) {Q : Nat → Mem → Prop} (hu : 0 ≤ μ 399 8 ∧ μ 399 8 ≤ 8) (q : ∀ ν d, Fr1 403 8 μ ν → ((μ 399 8 = 8 ∧ d = 1) ∨ (μ 399 8 < 8 ∧ d = 0)) → NoteP μ ν d → Q n ν) : CV G Y_X11_notes [.inr 399] n μ Q := by
  have last : ∀ (ν : Mem) (d : Int), ((μ 399 8 = 8 ∧ d = 1) ∨ (μ 399 8 < 8 ∧ d = 0)) → Fr1 403 8 μ ν → ν 399 8 = μ 399 8 - d → (∀ k j, 0 ≤ k → k < μ 399 8 - d → 0 ≤ j → j < 163 → ν 403 (163 * k + j) = μ 403 (163 * (k + d) + j)) → B_X11_notes_50 G Q n ν := by
    intro ν d hd hF h8 hk
    refine b_X11_notes_50 hg ⟨by omega, ?_⟩
    refine S_copies hg (N1 := 163) (N2 := 1304) St_402 St_403 (by decide) (by omega) (by omega) (fun ξ hB h1 h2 => ⟨?_, ?_⟩)
    · rw [hB 399 (by decide), h8]; omega
    · refine q _ d ⟨fun a a1 a2 => ?_, fun k k8 => ?_⟩ hd ⟨?_, fun k j k0 k1 j0 j1 => ?_, fun j j0 j1 => ?_⟩
      · rw [up_ne a1, hB a a2, hF.1 a a1 a2]
      · rw [up_oth k8, hB 399 (by decide), hF.2 k k8]
      · rw [up_self, hB 399 (by decide), h8]; omega
      · rw [up_ne (by decide), h2 _ (by rw [h8]; omega), hk k j k0 k1 j0 j1]
      · rw [up_ne (by decide), ← h8, h1 j j0 j1, Int.zero_add, hF.1 402 (by decide) (by decide)]
  have loop : ∀ (m : Nat) (k : Int) (ν : Mem), μ 399 8 = 8 → k + m = 1141 → 0 ≤ k → But 403 μ ν → (∀ j, 0 ≤ j → j < k → ν 403 j = μ 403 (j + 163)) → (∀ j, k ≤ j → ν 403 j = μ 403 j) → B_X11_notes_11 G Q n ν k := by
    intro m
    induction m with
    | zero =>
      intro k ν e8 e k0 hB h1 h2
      refine b_X11_notes_11 hg ⟨fun _ => ⟨by rw [hB 399 (by decide)]; omega, ?_⟩, fun c => absurd (by omega) c⟩
      refine last _ 1 (Or.inl ⟨e8, rfl⟩) ⟨fun a a1 a2 => by rw [up_ne a1, hB a a2], fun k k8 => by rw [up_oth k8, hB 399 (by decide)]⟩ (by rw [up_self, hB 399 (by decide)]) (fun k' j k0 k1 j0 j1 => ?_)
      rw [up_ne (by decide), h1 _ (by omega) (by omega)]
      congr 1
      omega
    | succ m ih =>
      intro k ν e8 e k0 hB h1 h2
      refine b_X11_notes_11 hg ⟨fun c => absurd c (by omega), fun _ => ⟨by omega, by omega, by omega, by omega, ih (k + 1) _ e8 (by omega) (by omega) hB.up (fun j j0 j1 => ?_) (fun j hj => ?_)⟩⟩
      · by_cases ej : j = k
        · rw [ej, up_self, h2 _ (by omega)]
        · rw [up_oth ej]
          exact h1 j j0 (by omega)
      · rw [up_oth (by omega)]
        exact h2 j (by omega)
  refine m_X11_notes hg ⟨fun c => ?_, fun c => ?_⟩
  · refine last μ 0 (Or.inr ⟨by omega, rfl⟩) ⟨fun _ _ _ => rfl, fun _ _ => rfl⟩ (by omega) (fun k j _ _ _ _ => ?_)
    rw [Int.add_zero]
  · exact loop 1141 0 μ c (by omega) (by omega) But.rf (fun j j0 j1 => by omega) (fun j _ => rfl)
end Notes
