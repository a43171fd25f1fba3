-- the class: what is noted, and taken back
theorem SRel_cong {nd cn a x : Int} {of s s' : Int → Int} {μ : Mem} (h : ∀ j, 0 ≤ j → j < 163 → s' j = s j) (hs : SR nd cn of s) (hS : SRel of s μ a x) : SRel of s' μ a x := by
  obtain ⟨h1, h2, h3, h4⟩ := hS
  have hm8 := hs.2.2.2.1
  refine ⟨by rw [h1, h 2 (by decide) (by decide)], by rw [h2, h 0 (by decide) (by decide)], by rw [h3, h 1 (by decide) (by decide)], fun b b0 b1 => ?_⟩
  rw [h 2 (by decide) (by decide)] at b1
  have hb := h4 b b0 b1
  have hB := hs.2.2.2.2 b b0 b1
  have hw : ∀ w, 0 ≤ w → w < 20 → it s' b w = it s b w := fun w w0 w1 => h _ (by omega) (by omega)
  refine ⟨BRel_eq (fun w w0 w1 _ => hw w w0 w1) hB hb.1, fun hn hst => ?_⟩
  rw [stateP_cong (fun w w0 w1 _ => hw w w0 w1) (h 0 (by decide) (by decide)) hB.2.2.2.2.2.2.2.2.2.2.2.2.2.2.1] at hst
  rw [hw 6 (by decide) (by decide)]
  exact hb.2 hn hst
/-- a row of 163 numbers out of a longer one -/
def rowF (p : Int → Int) (k : Int) : Int → Int := fun j => p (163 * k + j)
/-- a situation lies saved at a place -/
def SvRel (nd cn : Int) (of s : Int → Int) (μ : Mem) (a : Int) : Prop := SV nd cn of s ∧ st8 (s 1) ∧ SRel of s μ a 0
theorem SvRel_cong {nd cn a : Int} {of s s' : Int → Int} {μ : Mem} (h : ∀ j, 0 ≤ j → j < 163 → s' j = s j) (q : SvRel nd cn of s μ a) : SvRel nd cn of s' μ a :=
  ⟨SV_cong h q.1, by rw [h 1 (by decide) (by decide)]; exact q.2.1, SRel_cong h q.1.1 q.2.2⟩
theorem SvRel_keep {nd cn a : Int} {of s : Int → Int} {μ ν : Mem} (h : ∀ r, a ≤ r → r < a + 29 → ν r = μ r) (q : SvRel nd cn of s μ a) : SvRel nd cn of s ν a :=
  ⟨q.1, q.2.1, SRel_keep q.1.1.2.2.2.1 h q.2.2⟩
/-- what is noted lies in the slots, the latest before the next place -/
def HRel (nd cn : Int) (of : Int → Int) (μ : Mem) (u : Int) (past : Int → Int) : Prop :=
  μ 76 3 = u ∧ (0 ≤ μ 76 2 ∧ μ 76 2 < 8) ∧ (0 ≤ u ∧ u ≤ 8) ∧ ∀ k, 0 ≤ k → k < u → SvRel nd cn of (rowF past k) μ (106 + 1 + 29 * ((μ 76 2 - u + k) % 8))
def FrH (μ ν : Mem) : Prop := ∀ r, r ≠ 76 → ¬ (107 ≤ r ∧ r < 339) → ν r = μ r
theorem HRel_keep {nd cn u : Int} {of past : Int → Int} {μ ν : Mem} (h76 : ν 76 = μ 76) (h : ∀ r, 107 ≤ r → r < 339 → ν r = μ r) (q : HRel nd cn of μ u past) : HRel nd cn of ν u past := by
  obtain ⟨h1, h2, h3, h4⟩ := q
  unfold HRel
  rw [h76]
  exact ⟨h1, h2, h3, fun k k0 k1 => SvRel_keep (fun r r0 r1 => h r (by omega) (by omega)) (h4 k k0 k1)⟩
theorem HRel_cong {nd cn u : Int} {of past past' : Int → Int} {μ : Mem} (h : ∀ k j, 0 ≤ k → k < u → 0 ≤ j → j < 163 → past' (163 * k + j) = past (163 * k + j)) (q : HRel nd cn of μ u past) : HRel nd cn of μ u past' := by
  obtain ⟨h1, h2, h3, h4⟩ := q
  exact ⟨h1, h2, h3, fun k k0 k1 => SvRel_cong (fun j j0 j1 => h k j k0 k1 j0 j1) (h4 k k0 k1)⟩
section Hist
variable {G : GT} {n : Nat} {μ : Mem}
theorem C_slotAt (hg : gx G = FX) {Q : Int → Nat → Mem → Prop} {k : Int} (hk : 0 ≤ k ∧ k < 8) (q : Q (106 + 1 + 29 * k) n μ) : CR G Y_X2_slotAt [.inr 76, .inl k] n μ Q :=
  m_X2_slotAt hg ⟨fun z => absurd z (by omega), fun _ => ⟨fun _ => ⟨hk, fun _ => ⟨by omega, q⟩, fun z => absurd z (by omega)⟩, fun z => absurd hk.2 z⟩⟩
theorem C_remember (hg : gx G = FX) {Q : Nat → Mem → Prop} {nd cn u : Int} {of s past : Int → Int} (hs : SV nd cn of s) (h8 : st8 (s 1)) (h : SRel of s μ 18 0) (hH : HRel nd cn of μ u past)
    (q : ∀ ν, FrH μ ν → (∀ past' d, isD u d → (∀ k j, 0 ≤ k → k < u - d → 0 ≤ j → j < 163 → past' (163 * k + j) = past (163 * (k + d) + j)) → (∀ j, 0 ≤ j → j < 163 → past' (163 * (u - d) + j) = s j) → HRel nd cn of ν (u + 1 - d) past') → Q n ν) : CV G Y_X2_remember [.inr 76, .inr 18] n μ Q := by
  obtain ⟨h1, h2, h3, h4⟩ := hH
  have oS : St (106 + 1 + 29 * μ 76 2) 7 5 := st_24 St_106 h2.1 h2.2
  refine m_X2_remember hg St_18 (C_slotAt hg h2 ⟨oS, C_copyFrom hg oS St_18 (by omega) hs.1 h (fun ν hF hS => ?_)⟩)
  have e76 : ν 76 = μ 76 := hF 76 (by omega)
  rw [e76]
  have e3 : (up ν 76 2 ((μ 76 2 + 1) % 8)) 76 3 = u := by rw [up_oth (by decide), e76, h1]
  rw [e3]
  refine ⟨by unfold inR; omega, by omega, by unfold inR; omega, q _ (fun r r1 r2 => by rw [up_ne r1, up_ne r1]; exact hF r (by omega)) (fun past' d hd g1 g2 => ?_)⟩
  have hd' : (u = 8 ∧ d = 1) ∨ (u < 8 ∧ d = 0) := hd
  have f2 : (up (up ν 76 2 ((μ 76 2 + 1) % 8)) 76 3 (if 8 < u + 1 then 8 else u + 1)) 76 2 = (μ 76 2 + 1) % 8 := by rw [up_oth (by decide), up_self]
  have fr : ∀ r, r ≠ 76 → (up (up ν 76 2 ((μ 76 2 + 1) % 8)) 76 3 (if 8 < u + 1 then 8 else u + 1)) r = ν r := fun r hr => by rw [up_ne hr, up_ne hr]
  refine ⟨?_, by rw [f2]; omega, by omega, fun k k0 k1 => ?_⟩
  · rw [up_self]
    split <;> omega
  · rw [f2]
    by_cases ck : k = u - d
    · -- the new one
      have eS : ((μ 76 2 + 1) % 8 - (u + 1 - d) + k) % 8 = μ 76 2 := by omega
      rw [eS, ck]
      exact SvRel_keep (fun r r0 r1 => fr r (by omega)) (SvRel_cong (s := s) (fun j j0 j1 => g2 j j0 j1) ⟨hs, h8, hS⟩)
    · have eS : ((μ 76 2 + 1) % 8 - (u + 1 - d) + k) % 8 = (μ 76 2 - u + (k + d)) % 8 := by omega
      rw [eS]
      have h5 := h4 (k + d) (by omega) (by omega)
      refine SvRel_keep (fun r r0 r1 => (fr r (by omega)).trans (hF r ?_)) (SvRel_cong (fun j j0 j1 => g1 k j k0 (by omega) j0 j1) h5)
      have hne : (μ 76 2 - u + (k + d)) % 8 ≠ μ 76 2 := by omega
      omega
theorem C_takeBack (hg : gx G = FX) {Q : Nat → Mem → Prop} {nd cn u : Int} {of past : Int → Int} (hH : HRel nd cn of μ u past) (hu : 0 < u)
    (q : ∀ ν, (∀ r, r ≠ 76 → ¬ (18 ≤ r ∧ r < 47) → ν r = μ r) → HRel nd cn of ν (u - 1) past → SvRel nd cn of (rowF past (u - 1)) ν 18 → Q n ν) : CV G Y_X2_takeBack [.inr 76, .inr 18] n μ Q := by
  obtain ⟨h1, h2, h3, h4⟩ := hH
  refine m_X2_takeBack hg St_18 ⟨by unfold inR; omega, by unfold inR; omega, by omega, ?_⟩
  rw [up_self]
  have hk : 0 ≤ (μ 76 2 + 8 - 1) % 8 ∧ (μ 76 2 + 8 - 1) % 8 < 8 := by omega
  have oS : St (106 + 1 + 29 * ((μ 76 2 + 8 - 1) % 8)) 7 5 := st_24 St_106 hk.1 hk.2
  have hl := h4 (u - 1) (by omega) (by omega)
  rw [show (μ 76 2 - u + (u - 1)) % 8 = (μ 76 2 + 8 - 1) % 8 by omega] at hl
  have hl' := SvRel_keep (ν := up μ 76 2 ((μ 76 2 + 8 - 1) % 8)) (fun r r0 r1 => up_ne (by omega)) hl
  refine C_slotAt hg hk ⟨oS, C_copyFrom hg St_18 oS (by omega) hl'.1.1 hl'.2.2 (fun ν hF hS => ?_)⟩
  have e76 : ν 76 = (up μ 76 2 ((μ 76 2 + 8 - 1) % 8)) 76 := hF 76 (by omega)
  have e3 : ν 76 3 = u := by rw [e76, up_oth (by decide)]; exact h1
  have e2 : ν 76 2 = (μ 76 2 + 8 - 1) % 8 := by rw [e76, up_self]
  rw [e3]
  refine ⟨by unfold inR; omega, q _ (fun r r1 r2 => by rw [up_ne r1, hF r (by omega), up_ne r1]) ⟨by rw [up_self], by rw [up_oth (by decide), e2]; omega, by omega, fun k k0 k1 => ?_⟩ ⟨hl'.1, hl'.2.1, SRel_keep hl'.1.1.2.2.2.1 (fun r r0 r1 => up_ne (by omega)) hS⟩⟩
  rw [up_oth (by decide), e2]
  have h5 := h4 k k0 (by omega)
  rw [show (μ 76 2 - u + k) % 8 = ((μ 76 2 + 8 - 1) % 8 - (u - 1) + k) % 8 by omega] at h5
  exact SvRel_keep (fun r r0 r1 => by rw [up_ne (by omega), hF r (by omega), up_ne (by omega)]) h5
theorem C_forgetAll (hg : gx G = FX) {Q : Nat → Mem → Prop} (q : Q n (up μ 76 3 0)) : CV G Y_X2_forgetAll [.inr 76] n μ Q := m_X2_forgetAll hg q
theorem HRel_none {nd cn : Int} {of past : Int → Int} (h : 0 ≤ μ 76 2 ∧ μ 76 2 < 8) : HRel nd cn of (up μ 76 3 0) 0 past :=
  ⟨up_self _ _ _ _, by rw [up_oth (by decide)]; exact h, ⟨by decide, by decide⟩, fun k k0 k1 => by omega⟩
end Hist
